/-! new, image, restore, type, copy -/
theorem tq_init : ∃ rd : Nat → Int32, f_X3_reckon (1 : Int32) 0 0 (fun _ => 0) = some rd ∧ Rel (0 : Int32) chain0.1 0 chain0.2.1 chain0.2.2 (fun _ => 0) (1 : Int32) 0 0 rd (fun _ => 0) (fun _ => 0) (fun _ => (fun _ => 0)) 0 (0 : Int32) chain0.1 0 chain0.2.1 chain0.2.2 (fun _ => 0) (1 : Int32) 0 0 rd 0 (fun _ => 0) (fun _ => 0) (fun _ => 0) (fun _ => 0) (fun _ => (fun _ => 0)) chain0.2.2 0 0 0 (fun _ => 0) (fun _ => 0) (fun _ => 0) (fun _ => 0) (fun _ => 0) (upd (upd (upd (fun _ => 0) 1 (1 : Int32)) 2 (1 : Int32)) 27 (1 : Int32)) 0 0 (fun _ => 0) (upd (upd (upd (upd (fun _ => 0) 0 (-1 : Int32)) 1 (-1 : Int32)) 2 (-1 : Int32)) 3 (-1 : Int32)) (fun _ => 0) (fun _ => 0) := by
  have hV : DaV 1 0 0 := ⟨by decide, by decide, by decide, by decide⟩
  obtain ⟨rd, er, hrd⟩ := reckon_ok hV (dues := fun _ => 0) rfl
  refine ⟨rd, er, ⟨0, 1, fun _ => 1, [], 1, 0, 0, ⟨by decide, by decide, by decide, fun _ _ => ⟨Nat.le_refl 1, show 1 ≤ 9 by decide⟩, by decide, List.Pairwise.nil, fun _ h => by cases h⟩, ⟨rfl, rfl, rfl, fun i hi => ?_, fun i hi => ?_, fun i hi => absurd hi (by simp)⟩, ⟨rfl, rfl, fun i hi => ?_, rfl⟩, hV, ⟨rfl, rfl, rfl, hrd⟩, ⟨rfl, rfl, rfl⟩, fun _ _ => Or.inl rfl⟩, ⟨rfl, Or.inl rfl⟩, ⟨⟨0, by decide, rfl, rfl, fun i hi => absurd hi (by omega)⟩, rfl, Or.inl rfl⟩, fun q hq => ⟨⟨0, by decide, rfl, rfl⟩, Or.inl ⟨rfl, ?_⟩, fun _ _ => rfl⟩⟩
  · have : i = 0 := by omega
    subst this; rfl
  · have : i = 0 ∨ i = 1 := by omega
    rcases this with rfl | rfl <;> rfl
  · have : i = 0 := by omega
    subst this; rfl
  · exact co_4 (P := fun q => upd (upd (upd (upd (fun _ => 0) 0 (-1 : Int32)) 1 (-1 : Int32)) 2 (-1 : Int32)) 3 (-1 : Int32) q = -1) rfl rfl rfl rfl hq
theorem tq_image {x_hasImage : Int32} {x_chain_kind : Int32} {x_chain_links : Int32} {x_chain_cutCount : Int32} {x_best_known : Nat → Int32} {x_chain_worths : Nat → Int32} {x_chain_ahead : Nat → Int32} {x_chain_cuts : Nat → Int32} {x_tape_length : Int32} {x_tape_bytes : Nat → Int32} {x_draft_ahead : Nat → Int32} {x_days_each : Int32} {x_days_off : Int32} {x_days_twice : Int32} {x_days_dues : Nat → Int32} {x_sets_whole : Int32} {x_sets_pieceCount : Int32} {x_sets_lookedBack : Int32} {x_sets_worths : Nat → Int32} {x_sets_ends : Nat → Int32} {x_sets_order : Nat → Int32} {x_sets_notes : Nat → Int32} {x_best_far : Nat → Int32} {x_best_rows : Nat → Nat → Int32} {x_sets_lookedAt : Nat → Int32} {x_imageChain_kind : Int32} {x_imageChain_links : Int32} {x_imageChain_cutCount : Int32} {x_imageChain_worths : Nat → Int32} {x_imageChain_ahead : Nat → Int32} {x_imageChain_cuts : Nat → Int32} {x_imageDays_each : Int32} {x_imageDays_off : Int32} {x_imageDays_twice : Int32} {x_imageDays_dues : Nat → Int32} {x_sheets_there : Nat → Int32} {x_sheets_lane : Nat → Int32} {x_sheets_length : Nat → Int32} {x_sheets_items : Nat → Nat → Int64} {y_isKept : Int32} {y_taped : Int32} {y_w : Nat → Int32} {y_tape : Nat → Int32} {y_lanes : Nat → Int32} {y_longs : Nat → Int32} {y_items : Nat → Int64} (hR : Rel x_chain_kind x_chain_links x_chain_cutCount x_chain_worths x_chain_ahead x_chain_cuts x_days_each x_days_off x_days_twice x_days_dues x_best_known x_best_far x_best_rows x_hasImage x_imageChain_kind x_imageChain_links x_imageChain_cutCount x_imageChain_worths x_imageChain_ahead x_imageChain_cuts x_imageDays_each x_imageDays_off x_imageDays_twice x_imageDays_dues x_tape_length x_tape_bytes x_sheets_there x_sheets_lane x_sheets_length x_sheets_items x_draft_ahead x_sets_whole x_sets_pieceCount x_sets_lookedBack x_sets_worths x_sets_lookedAt x_sets_ends x_sets_order x_sets_notes y_w y_isKept y_taped y_tape y_lanes y_longs y_items) : ∃ (rx : Int32 × Int32 × Int32 × Int32 × Int32 × (Nat → Int32) × (Nat → Int32) × (Nat → Int32) × Int32 × Int32 × Int32 × (Nat → Int32)) (ry : Int32 × Int32 × (Nat → Int32)), f_X10_image x_imageChain_worths x_imageChain_ahead x_imageChain_cuts x_chain_kind x_chain_links x_chain_cutCount x_chain_worths x_chain_ahead x_chain_cuts x_imageDays_dues x_days_each x_days_off x_days_twice x_days_dues = some rx ∧ f_X11_image y_w = some ry ∧ rx.1 = ry.1 ∧ Rel x_chain_kind x_chain_links x_chain_cutCount x_chain_worths x_chain_ahead x_chain_cuts x_days_each x_days_off x_days_twice x_days_dues x_best_known x_best_far x_best_rows rx.2.1 rx.2.2.1 rx.2.2.2.1 rx.2.2.2.2.1 rx.2.2.2.2.2.1 rx.2.2.2.2.2.2.1 rx.2.2.2.2.2.2.2.1 rx.2.2.2.2.2.2.2.2.1 rx.2.2.2.2.2.2.2.2.2.1 rx.2.2.2.2.2.2.2.2.2.2.1 rx.2.2.2.2.2.2.2.2.2.2.2 x_tape_length x_tape_bytes x_sheets_there x_sheets_lane x_sheets_length x_sheets_items x_draft_ahead x_sets_whole x_sets_pieceCount x_sets_lookedBack x_sets_worths x_sets_lookedAt x_sets_ends x_sets_order x_sets_notes ry.2.2 ry.2.1 y_taped y_tape y_lanes y_longs y_items := by
  obtain ⟨hC, hI, hT, hS⟩ := hR
  obtain ⟨f, ef, h1, h2⟩ := imageM_ok y_w
  unfold f_X10_image
  rw [take_ok, takeD_ok, ef]
  obtain ⟨kd, n, w, cs, r, off, dbl, hV, hCC, ⟨m1, m2, m3, m4⟩, hDV, hDC, ⟨d1, d2, d3⟩, hB⟩ := id hC
  have hn := hV.2.2.1
  refine ⟨_, _, rfl, rfl, rfl, RelC_congr h1 hC, ⟨rfl, Or.inr ⟨rfl, kd, n, w, cs, r, off, dbl, hV, ChC_take hV hCC, ⟨?_, ?_, fun i hi => ?_, ?_⟩, hDV, DaC_take hDC, ⟨?_, ?_, ?_⟩⟩⟩, hT, hS⟩
  · exact (h2 0 (by decide)).trans m1
  · exact (h2 1 (by decide)).trans m2
  · show f (30 + 2 + i) = _
    rw [show 30 + 2 + i = 30 + (0 + 2 + i) by omega, h2 _ (by omega)]; exact m3 i hi
  · exact (h2 26 (by decide)).trans m4
  · exact (h2 27 (by decide)).trans d1
  · exact (h2 28 (by decide)).trans d2
  · exact (h2 29 (by decide)).trans d3
theorem tq_restore {x_hasImage : Int32} {x_chain_kind : Int32} {x_chain_links : Int32} {x_chain_cutCount : Int32} {x_best_known : Nat → Int32} {x_chain_worths : Nat → Int32} {x_chain_ahead : Nat → Int32} {x_chain_cuts : Nat → Int32} {x_tape_length : Int32} {x_tape_bytes : Nat → Int32} {x_draft_ahead : Nat → Int32} {x_days_each : Int32} {x_days_off : Int32} {x_days_twice : Int32} {x_days_dues : Nat → Int32} {x_sets_whole : Int32} {x_sets_pieceCount : Int32} {x_sets_lookedBack : Int32} {x_sets_worths : Nat → Int32} {x_sets_ends : Nat → Int32} {x_sets_order : Nat → Int32} {x_sets_notes : Nat → Int32} {x_best_far : Nat → Int32} {x_best_rows : Nat → Nat → Int32} {x_sets_lookedAt : Nat → Int32} {x_imageChain_kind : Int32} {x_imageChain_links : Int32} {x_imageChain_cutCount : Int32} {x_imageChain_worths : Nat → Int32} {x_imageChain_ahead : Nat → Int32} {x_imageChain_cuts : Nat → Int32} {x_imageDays_each : Int32} {x_imageDays_off : Int32} {x_imageDays_twice : Int32} {x_imageDays_dues : Nat → Int32} {x_sheets_there : Nat → Int32} {x_sheets_lane : Nat → Int32} {x_sheets_length : Nat → Int32} {x_sheets_items : Nat → Nat → Int64} {y_isKept : Int32} {y_taped : Int32} {y_w : Nat → Int32} {y_tape : Nat → Int32} {y_lanes : Nat → Int32} {y_longs : Nat → Int32} {y_items : Nat → Int64} (hR : Rel x_chain_kind x_chain_links x_chain_cutCount x_chain_worths x_chain_ahead x_chain_cuts x_days_each x_days_off x_days_twice x_days_dues x_best_known x_best_far x_best_rows x_hasImage x_imageChain_kind x_imageChain_links x_imageChain_cutCount x_imageChain_worths x_imageChain_ahead x_imageChain_cuts x_imageDays_each x_imageDays_off x_imageDays_twice x_imageDays_dues x_tape_length x_tape_bytes x_sheets_there x_sheets_lane x_sheets_length x_sheets_items x_draft_ahead x_sets_whole x_sets_pieceCount x_sets_lookedBack x_sets_worths x_sets_lookedAt x_sets_ends x_sets_order x_sets_notes y_w y_isKept y_taped y_tape y_lanes y_longs y_items) : ∃ (rx : Int32 × Int32 × Int32 × Int32 × (Nat → Int32) × (Nat → Int32) × (Nat → Int32) × Int32 × Int32 × Int32 × (Nat → Int32) × (Nat → Int32)) (ry : Int32 × (Nat → Int32)), f_X10_restore x_hasImage x_chain_kind x_chain_links x_chain_cutCount x_chain_worths x_chain_ahead x_chain_cuts x_imageChain_kind x_imageChain_links x_imageChain_cutCount x_imageChain_worths x_imageChain_ahead x_imageChain_cuts x_days_each x_days_off x_days_twice x_days_dues x_imageDays_each x_imageDays_off x_imageDays_twice x_imageDays_dues x_best_known = some rx ∧ f_X11_restore y_isKept y_w = some ry ∧ rx.1 = ry.1 ∧ Rel rx.2.1 rx.2.2.1 rx.2.2.2.1 rx.2.2.2.2.1 rx.2.2.2.2.2.1 rx.2.2.2.2.2.2.1 rx.2.2.2.2.2.2.2.1 rx.2.2.2.2.2.2.2.2.1 rx.2.2.2.2.2.2.2.2.2.1 rx.2.2.2.2.2.2.2.2.2.2.1 rx.2.2.2.2.2.2.2.2.2.2.2 x_best_far x_best_rows x_hasImage x_imageChain_kind x_imageChain_links x_imageChain_cutCount x_imageChain_worths x_imageChain_ahead x_imageChain_cuts x_imageDays_each x_imageDays_off x_imageDays_twice x_imageDays_dues x_tape_length x_tape_bytes x_sheets_there x_sheets_lane x_sheets_length x_sheets_items x_draft_ahead x_sets_whole x_sets_pieceCount x_sets_lookedBack x_sets_worths x_sets_lookedAt x_sets_ends x_sets_order x_sets_notes ry.2 y_isKept y_taped y_tape y_lanes y_longs y_items := by
  obtain ⟨hC, hI, hT, hS⟩ := hR
  obtain ⟨e, h⟩ := id hI
  subst e
  unfold f_X10_restore f_X11_restore
  rcases h with h0 | ⟨h1, kd, n, w, cs, r, off, dbl, hV, hCC, ⟨m1, m2, m3, m4⟩, hDV, hDC, ⟨d1, d2, d3⟩⟩
  · rw [if_pos h0, if_pos h0]
    exact ⟨_, _, rfl, rfl, rfl, hC, hI, hT, hS⟩
  · rw [if_neg (by rw [h1]; exact n10), if_neg (by rw [h1]; exact n10)]
    obtain ⟨f, ef, f1, f2⟩ := restoreM_ok y_w
    obtain ⟨g, eg, hg⟩ := forget_ok x_best_known
    rw [take_ok, takeD_ok, ef, eg]
    have hn := hV.2.2.1
    refine ⟨_, _, rfl, rfl, rfl, ⟨kd, n, w, cs, r, off, dbl, hV, ChC_take hV hCC, ⟨?_, ?_, fun i hi => ?_, ?_⟩, hDV, DaC_take hDC, ⟨?_, ?_, ?_⟩, BeC_forget hg⟩, RelI_congr f2 hI, hT, hS⟩
    · exact (f1 0 (by decide)).trans m1
    · exact (f1 1 (by decide)).trans m2
    · show f (0 + 2 + i) = _
      rw [f1 _ (by omega), show 30 + (0 + 2 + i) = 30 + 2 + i by omega]; exact m3 i hi
    · exact (f1 26 (by decide)).trans m4
    · exact (f1 27 (by decide)).trans d1
    · exact (f1 28 (by decide)).trans d2
    · exact (f1 29 (by decide)).trans d3
theorem canHold_ok {v : Int64} {n : Nat} (hn : n ≤ 8) : ∃ z : Int32, f_X9_canHold v (nI n) = some z ∧ ((z = 0 ∧ ∀ (a : Int32) (b : Nat → Int32) (kx : Int32 → Option (Int32 × Int32 × (Nat → Int32))), L_X11_type_17 a b v (nI n) kx FUEL 0 = some (-1, a, b)) ∨ (z = 1 ∧ (∀ (a : Int32) (b : Nat → Int32) (kx : Int32 → Option (Int32 × Int32 × (Nat → Int32))), L_X11_type_17 a b v (nI n) kx FUEL 0 = kx (nI n)) ∧ ∀ i, i < n → ∃ b, 32 ≤ b ∧ b ≤ 126 ∧ f_X9_byteOf v (nI i) = some (nI b) ∧ (v >>> (((8 : Int32) * nI i).toInt64 &&& 63)) &&& (255 : Int64) = lN b)) := by
  have bad : ∀ (b : Nat), b < 256 → ((32 : Int64) ≤ lN b ∧ lN b ≤ 126 ↔ 32 ≤ b ∧ b ≤ 126) := fun b hb => by
    rw [show (32 : Int64) = lN 32 from rfl, show (126 : Int64) = lN 126 from rfl, lN_le (by omega) (by omega), lN_le (by omega) (by omega)]
  have bad2 : ∀ (b : Nat), b < 256 → ((32 : Int32) ≤ nI b ∧ nI b ≤ 126 ↔ 32 ≤ b ∧ b ≤ 126) := fun b hb => by
    simp (disch := omega) only [lit, nI_add, pk_mul, nI_subT, nI_m1T, nI_clamp, nI_ltI, nI_leI, nI_eq, inb_T, ob_tt, Option.bind_some, ↓reduceIte, shl1_n, shr_n', and_n, or_n, xor_n, n31, dvd_n, pk_us, pk_un, gt_iff_lt, ge_iff_le, m1lt, m1ge]
  by_cases hall : ∃ i, i < n ∧ ¬ ∃ b, 32 ≤ b ∧ b ≤ 126 ∧ f_X9_byteOf v (nI i) = some (nI b)
  · obtain ⟨i, ⟨hi, hbi⟩, hmin⟩ := pk_least (fun i => i < n ∧ ¬ ∃ b, 32 ≤ b ∧ b ≤ 126 ∧ f_X9_byteOf v (nI i) = some (nI b)) hall
    have good : ∀ j, j < i → ∃ b, 32 ≤ b ∧ b ≤ 126 ∧ f_X9_byteOf v (nI j) = some (nI b) := fun j hj => Classical.byContradiction (fun z => hmin j hj ⟨by omega, z⟩)
    refine ⟨0, ?_, Or.inl ⟨rfl, fun a b kx => ?_⟩⟩
    · unfold f_X9_canHold L_X9_canHold_2
      refine upQ0 _ (fun o => o = some 0) i (fun _ => True) (by omega) (fun j hj _ => Or.inr ⟨trivial, fun rec => ?_⟩) (fun _ rec => ?_) (j := 0) (by omega) trivial
      · obtain ⟨b, h1, h2, h3⟩ := good j hj
        show LB_X9_canHold_2 _ _ _ rec (nI j) = _
        unfold LB_X9_canHold_2
        rw [if_neg (nI_ge (by omega) (by omega)), h3, Option.bind_some, within_ok, Option.bind_some, if_pos ((bad2 b (by omega)).mpr ⟨h1, h2⟩), if_neg n10, nI_1]
      · obtain ⟨b, h1, h2, h3⟩ := byte_ok (v := v) (i := i) (by omega)
        show LB_X9_canHold_2 _ _ _ rec (nI i) = _
        unfold LB_X9_canHold_2
        rw [if_neg (nI_ge (by omega) (by omega)), h2, Option.bind_some, within_ok, Option.bind_some, if_neg (fun z => hbi ⟨b, ((bad2 b h1).mp z).1, ((bad2 b h1).mp z).2, h2⟩), if_pos rfl]
    · unfold L_X11_type_17
      refine upQ0 _ (fun o => o = some (-1, a, b)) i (fun _ => True) (by omega) (fun j hj _ => Or.inr ⟨trivial, fun rec => ?_⟩) (fun _ rec => ?_) (j := 0) (by omega) trivial
      · obtain ⟨b', h1, h2, h3⟩ := good j hj
        obtain ⟨b'', h4, h5, h6⟩ := byte_ok (v := v) (i := j) (by omega)
        rw [h3] at h5
        have := (nI_eq (by omega) (by omega)).mp (Option.some.inj h5)
        subst this
        show LB_X11_type_17 _ _ _ _ _ rec (nI j) = _
        unfold LB_X11_type_17
        rw [if_neg (nI_ge (by omega) (by omega)), h6, in_ok, Option.bind_some, if_pos ((bad b' (by omega)).mpr ⟨h1, h2⟩), if_neg n10, nI_1]
      · obtain ⟨b', h1, h2, h3⟩ := byte_ok (v := v) (i := i) (by omega)
        show LB_X11_type_17 _ _ _ _ _ rec (nI i) = _
        unfold LB_X11_type_17
        rw [if_neg (nI_ge (by omega) (by omega)), h3, in_ok, Option.bind_some, if_neg (fun z => hbi ⟨b', ((bad b' h1).mp z).1, ((bad b' h1).mp z).2, h2⟩), if_pos rfl]
  · have good : ∀ i, i < n → ∃ b, 32 ≤ b ∧ b ≤ 126 ∧ f_X9_byteOf v (nI i) = some (nI b) ∧ (v >>> (((8 : Int32) * nI i).toInt64 &&& 63)) &&& (255 : Int64) = lN b := by
      intro i hi
      obtain ⟨b, h1, h2, h3⟩ := Classical.byContradiction (fun z => hall ⟨i, hi, z⟩)
      obtain ⟨b'', h4, h5, h6⟩ := byte_ok (v := v) (i := i) (by omega)
      rw [h3] at h5
      have := (nI_eq (by omega) (by omega)).mp (Option.some.inj h5)
      subst this
      exact ⟨b, h1, h2, h3, h6⟩
    refine ⟨1, ?_, Or.inr ⟨rfl, fun a b kx => ?_, good⟩⟩
    · unfold f_X9_canHold L_X9_canHold_2
      refine upQ0 _ (fun o => o = some 1) n (fun _ => True) (by omega) (fun j hj _ => Or.inr ⟨trivial, fun rec => ?_⟩) (fun _ rec => ?_) (j := 0) (by omega) trivial
      · obtain ⟨b, h1, h2, h3, -⟩ := good j hj
        show LB_X9_canHold_2 _ _ _ rec (nI j) = _
        unfold LB_X9_canHold_2
        rw [if_neg (nI_ge (by omega) (by omega)), h3, Option.bind_some, within_ok, Option.bind_some, if_pos ((bad2 b (by omega)).mpr ⟨h1, h2⟩), if_neg n10, nI_1]
      · show LB_X9_canHold_2 _ _ _ rec (nI n) = _
        unfold LB_X9_canHold_2
        rw [if_pos (nI_le (Nat.le_refl _) (by omega))]; rfl
    · unfold L_X11_type_17
      refine upQ0 _ (fun o => o = kx (nI n)) n (fun _ => True) (by omega) (fun j hj _ => Or.inr ⟨trivial, fun rec => ?_⟩) (fun _ rec => ?_) (j := 0) (by omega) trivial
      · obtain ⟨b', h1, h2, h3, h6⟩ := good j hj
        show LB_X11_type_17 _ _ _ _ _ rec (nI j) = _
        unfold LB_X11_type_17
        rw [if_neg (nI_ge (by omega) (by omega)), h6, in_ok, Option.bind_some, if_pos ((bad b' (by omega)).mpr ⟨h1, h2⟩), if_neg n10, nI_1]
      · show LB_X11_type_17 _ _ _ _ _ rec (nI n) = _
        unfold LB_X11_type_17
        rw [if_pos (nI_le (Nat.le_refl _) (by omega))]
def TyI (v : Int64) (n tl : Nat) (m : Nat) (f : Nat → Int32) (f0 : Nat → Int32) : Prop := (∀ i, i < tl → f i = f0 i) ∧ ∀ i, i < n - m → ∃ b, 32 ≤ b ∧ b ≤ 126 ∧ f_X9_byteOf v (nI (n - 1 - i)) = some (nI b) ∧ f (tl + i) = nI b
theorem TyI_step {v : Int64} {n tl m : Nat} {f f0 : Nat → Int32} (hm : m + 1 ≤ n) (h : TyI v n tl (m + 1) f f0) {b : Nat} (h1 : 32 ≤ b) (h2 : b ≤ 126) (hb : f_X9_byteOf v (nI m) = some (nI b)) : TyI v n tl m (upd f (tl + (n - (m + 1))) (nI b)) f0 := by
  obtain ⟨a1, a2⟩ := h
  refine ⟨fun i hi => ?_, fun i hi => ?_⟩
  · rw [pk_un (by omega)]; exact a1 i hi
  · by_cases e : i = n - (m + 1)
    · refine ⟨b, h1, h2, ?_, ?_⟩
      · rw [show n - 1 - i = m by omega]; exact hb
      · rw [e, pk_us]
    · rw [pk_un (by omega)]; exact a2 i (by omega)
theorem write_ok {v : Int64} {n tl : Nat} (hn : n ≤ 8) (ht : tl + n ≤ 60) (bytes : Nat → Int32) (hb : ∀ i, i < n → ∃ b, 32 ≤ b ∧ b ≤ 126 ∧ f_X9_byteOf v (nI i) = some (nI b) ∧ (v >>> (((8 : Int32) * nI i).toInt64 &&& 63)) &&& (255 : Int64) = lN b) (h1 : 1 ≤ n) : ∃ f, f_X9_write (nI tl) bytes v (nI n) = some (nI (tl + n), f) ∧ TyI v n tl 0 f bytes := by
  unfold f_X9_write L_X9_write_5 B_X9_write_42
  refine loopQ _ (fun o => ∃ f, o = some (nI (tl + n), f) ∧ TyI v n tl 0 f bytes) (fun m a => ∃ f : Nat → Int32, a = (nI m - 1, nI (tl + (n - m)), f) ∧ m ≤ n ∧ TyI v n tl m f bytes) ?_ FUEL n _ ⟨bytes, by rw [Nat.sub_self, Nat.add_zero], Nat.le_refl _, fun i hi => rfl, fun i hi => absurd hi (by omega)⟩ (fuel_lt (by omega))
  rintro m a ⟨f, rfl, hm, hI⟩
  cases m with
  | zero =>
    refine Or.inl (fun rec => ⟨f, ?_, hI⟩)
    show LB_X9_write_5 _ _ rec (nI 0 - 1) (nI (tl + (n - 0))) f = _
    unfold LB_X9_write_5
    rw [if_pos (show nI 0 - (1 : Int32) < 0 by decide)]
    rfl
  | succ m =>
    obtain ⟨b, b1, b2, b3, -⟩ := hb m (by omega)
    refine Or.inr ⟨m, (nI m - 1, nI (tl + (n - m)), upd f (tl + (n - (m + 1))) (nI b)), by omega, ⟨_, rfl, by omega, TyI_step hm hI b1 b2 b3⟩, fun rec => ?_⟩
    show LB_X9_write_5 _ _ rec (nI (m + 1) - 1) (nI (tl + (n - (m + 1)))) f = _
    unfold LB_X9_write_5
    rw [show nI (m + 1) - (1 : Int32) = nI m from nI_pred m, if_neg (nI_pos (by omega)), b3, Option.bind_some, nb_ok (by omega), ob_t (inb_nI (by omega) (by decide)), nI_clamp (by omega), nI_1, Int32.sub_eq_add_neg, show tl + (n - (m + 1)) + 1 = tl + (n - m) by omega]
theorem writeM_ok {v : Int64} {n tl : Nat} (hn : n ≤ 8) (ht : tl + n ≤ 60) (bytes : Nat → Int32) (hb : ∀ i, i < n → ∃ b, 32 ≤ b ∧ b ≤ 126 ∧ f_X9_byteOf v (nI i) = some (nI b) ∧ (v >>> (((8 : Int32) * nI i).toInt64 &&& 63)) &&& (255 : Int64) = lN b) (h1 : 1 ≤ n) : ∃ f, L_X11_type_73 v (fun t => B_X11_type_115 t.2.1 t.2.2) FUEL ((nI n - (1 : Int32)), nI tl, bytes) = some (nI (tl + n), nI (tl + n), f) ∧ TyI v n tl 0 f bytes := by
  unfold L_X11_type_73 B_X11_type_115
  refine loopQ _ (fun o => ∃ f, o = some (nI (tl + n), nI (tl + n), f) ∧ TyI v n tl 0 f bytes) (fun m a => ∃ f : Nat → Int32, a = (nI m - 1, nI (tl + (n - m)), f) ∧ m ≤ n ∧ TyI v n tl m f bytes) ?_ FUEL n _ ⟨bytes, by rw [Nat.sub_self, Nat.add_zero], Nat.le_refl _, fun i hi => rfl, fun i hi => absurd hi (by omega)⟩ (fuel_lt (by omega))
  rintro m a ⟨f, rfl, hm, hI⟩
  cases m with
  | zero =>
    refine Or.inl (fun rec => ⟨f, ?_, hI⟩)
    show LB_X11_type_73 _ _ rec (nI 0 - 1) (nI (tl + (n - 0))) f = _
    unfold LB_X11_type_73
    rw [if_pos (show nI 0 - (1 : Int32) < 0 by decide)]
    rfl
  | succ m =>
    obtain ⟨b, b1, b2, b3, b4⟩ := hb m (by omega)
    refine Or.inr ⟨m, (nI m - 1, nI (tl + (n - m)), upd f (tl + (n - (m + 1))) (nI b)), by omega, ⟨_, rfl, by omega, TyI_step hm hI b1 b2 b3⟩, fun rec => ?_⟩
    show LB_X11_type_73 _ _ rec (nI (m + 1) - 1) (nI (tl + (n - (m + 1)))) f = _
    unfold LB_X11_type_73
    rw [show nI (m + 1) - (1 : Int32) = nI m from nI_pred m, if_neg (nI_pos (by omega)), b4, lN_i, ob_t (inb_nI (by omega) (by decide)), nI_clamp (by omega), nI_1, Int32.sub_eq_add_neg, show tl + (n - (m + 1)) + 1 = tl + (n - m) by omega]
theorem tq_type {x_hasImage : Int32} {x_chain_kind : Int32} {x_chain_links : Int32} {x_chain_cutCount : Int32} {x_best_known : Nat → Int32} {x_chain_worths : Nat → Int32} {x_chain_ahead : Nat → Int32} {x_chain_cuts : Nat → Int32} {x_tape_length : Int32} {x_tape_bytes : Nat → Int32} {x_draft_ahead : Nat → Int32} {x_days_each : Int32} {x_days_off : Int32} {x_days_twice : Int32} {x_days_dues : Nat → Int32} {x_sets_whole : Int32} {x_sets_pieceCount : Int32} {x_sets_lookedBack : Int32} {x_sets_worths : Nat → Int32} {x_sets_ends : Nat → Int32} {x_sets_order : Nat → Int32} {x_sets_notes : Nat → Int32} {x_best_far : Nat → Int32} {x_best_rows : Nat → Nat → Int32} {x_sets_lookedAt : Nat → Int32} {x_imageChain_kind : Int32} {x_imageChain_links : Int32} {x_imageChain_cutCount : Int32} {x_imageChain_worths : Nat → Int32} {x_imageChain_ahead : Nat → Int32} {x_imageChain_cuts : Nat → Int32} {x_imageDays_each : Int32} {x_imageDays_off : Int32} {x_imageDays_twice : Int32} {x_imageDays_dues : Nat → Int32} {x_sheets_there : Nat → Int32} {x_sheets_lane : Nat → Int32} {x_sheets_length : Nat → Int32} {x_sheets_items : Nat → Nat → Int64} {y_isKept : Int32} {y_taped : Int32} {y_w : Nat → Int32} {y_tape : Nat → Int32} {y_lanes : Nat → Int32} {y_longs : Nat → Int32} {y_items : Nat → Int64} (hR : Rel x_chain_kind x_chain_links x_chain_cutCount x_chain_worths x_chain_ahead x_chain_cuts x_days_each x_days_off x_days_twice x_days_dues x_best_known x_best_far x_best_rows x_hasImage x_imageChain_kind x_imageChain_links x_imageChain_cutCount x_imageChain_worths x_imageChain_ahead x_imageChain_cuts x_imageDays_each x_imageDays_off x_imageDays_twice x_imageDays_dues x_tape_length x_tape_bytes x_sheets_there x_sheets_lane x_sheets_length x_sheets_items x_draft_ahead x_sets_whole x_sets_pieceCount x_sets_lookedBack x_sets_worths x_sets_lookedAt x_sets_ends x_sets_order x_sets_notes y_w y_isKept y_taped y_tape y_lanes y_longs y_items) (p0 : Int64) (p1 : Int32) : ∃ (rx : Int32 × Int32 × (Nat → Int32)) (ry : Int32 × Int32 × (Nat → Int32)), f_X10_type x_tape_length x_tape_bytes p0 p1 = some rx ∧ f_X11_type y_taped y_tape p0 p1 = some ry ∧ rx.1 = ry.1 ∧ Rel x_chain_kind x_chain_links x_chain_cutCount x_chain_worths x_chain_ahead x_chain_cuts x_days_each x_days_off x_days_twice x_days_dues x_best_known x_best_far x_best_rows x_hasImage x_imageChain_kind x_imageChain_links x_imageChain_cutCount x_imageChain_worths x_imageChain_ahead x_imageChain_cuts x_imageDays_each x_imageDays_off x_imageDays_twice x_imageDays_dues rx.2.1 rx.2.2 x_sheets_there x_sheets_lane x_sheets_length x_sheets_items x_draft_ahead x_sets_whole x_sets_pieceCount x_sets_lookedBack x_sets_worths x_sets_lookedAt x_sets_ends x_sets_order x_sets_notes y_w y_isKept ry.2.1 ry.2.2 y_lanes y_longs y_items := by
  obtain ⟨hC, hI, ⟨hT, hd0⟩, hS⟩ := hR
  unfold f_X10_type f_X11_type B_X10_type_18
  rw [within_ok, in_lit p1 1 8 (by decide) (by decide)]
  by_cases h0 : (1 : Int32) ≤ p1 ∧ p1 ≤ 8
  · rw [if_pos h0]
    simp only [Option.bind_some]
    rw [if_neg n10, if_neg n10]
    obtain ⟨n, hn, rfl⟩ := nat_of (N := 8) (M := 8) (by decide) ⟨Int32.le_trans (by decide) h0.1, h0.2⟩
    have hn1 : 1 ≤ n := (nI_leI (a := 1) (b := n) (by decide) (by omega)).mp h0.1
    obtain ⟨z, ez, hz⟩ := canHold_ok (v := p0) hn
    rw [ez]
    simp only [Option.bind_some]
    rcases hz with ⟨rfl, hz⟩ | ⟨rfl, hz, hb⟩
    · rw [if_pos rfl, show ((0 : Int32)) = nI 0 from rfl, show nI 0 = (0 : Int32) from rfl, hz]
      exact ⟨_, _, rfl, rfl, rfl, hC, hI, ⟨hT, hd0⟩, hS⟩
    · rw [if_neg n10, hz]
      obtain ⟨tl, ht, e1, e2, h3⟩ := id hT
      unfold B_X11_type_54
      rw [e1, e2, nI_add]
      by_cases h60 : tl + n ≤ 60
      · rw [if_pos (show nI (tl + n) ≤ (60 : Int32) from nI_le h60 (by decide)), if_pos (show nI (tl + n) ≤ (60 : Int32) from nI_le h60 (by decide))]
        obtain ⟨f, ef, f1, f2⟩ := write_ok hn h60 x_tape_bytes hb hn1
        obtain ⟨g, eg, g1, g2⟩ := writeM_ok hn h60 y_tape hb hn1
        rw [ef, eg]
        refine ⟨_, _, rfl, rfl, rfl, hC, hI, ⟨⟨tl + n, h60, rfl, rfl, fun i hi => ?_⟩, hd0⟩, hS⟩
        show ∃ v, 32 ≤ v ∧ v ≤ 126 ∧ f i = nI v ∧ g i = nI v
        by_cases hi2 : i < tl
        · rw [f1 i hi2, g1 i hi2]; exact h3 i hi2
        · obtain ⟨b, b1, b2, b3, b4⟩ := f2 (i - tl) (by omega)
          obtain ⟨b', b5, b6, b7, b8⟩ := g2 (i - tl) (by omega)
          rw [b3] at b7
          have := Option.some.inj b7
          rw [show tl + (i - tl) = i by omega] at b4 b8
          exact ⟨b, b1, b2, b4, by rw [b8, this]⟩
      · rw [if_neg (show ¬ nI (tl + n) ≤ (60 : Int32) from nI_ge (a := 60) (b := tl + n) (by omega) (by omega)), if_neg (show ¬ nI (tl + n) ≤ (60 : Int32) from nI_ge (a := 60) (b := tl + n) (by omega) (by omega))]
        exact ⟨_, _, rfl, rfl, rfl, hC, hI, ⟨⟨tl, ht, rfl, rfl, h3⟩, hd0⟩, hS⟩
  · rw [if_neg h0]
    exact ⟨_, _, rfl, rfl, rfl, hC, hI, ⟨hT, hd0⟩, hS⟩
theorem barsQ {there lane length : Nat → Int32} {items : Nat → Nat → Int64} {lanes longs : Nat → Int32} {mitems : Nat → Int64} (hS : RelS there lane length items lanes longs mitems) {q : Nat} (hq : q < 4) {L la : Nat} (hL : L ≤ 24) (e1 : length q = nI L) (e2 : there q = 1) (e3 : lane q = nI la) (lb i n : Int32) : f_X11_bars lanes longs (nI q) lb i n = some (if nI la = lb then (if 0 ≤ i.toInt ∧ 0 ≤ n.toInt ∧ i.toInt + n.toInt ≤ L then 0 else -13) else -12) := by
  obtain ⟨z, h1, h2, -⟩ := ref_bars hS hq lb i n
  rw [h2, ← h1]
  unfold f_X7_refusal B_X7_refusal_36
  rw [e1, e2, e3, if_neg n10, spans_ok hL, Option.bind_some]
  by_cases a : nI la = lb
  · rw [if_pos a, if_pos a]
    by_cases b : 0 ≤ i.toInt ∧ 0 ≤ n.toInt ∧ i.toInt + n.toInt ≤ L
    · rw [if_pos b, if_neg n10, if_pos b]
    · rw [if_neg b, if_pos rfl, if_neg b]
  · rw [if_neg a, if_neg a]
theorem copyA {mitems hand : Nat → Int64} {a i n : Nat} (ha : a < 4) (hi : i + n ≤ 24) (kx : Int32 × (Nat → Int64) → Option (Int32 × (Nat → Int64) × (Nat → Int64))) : ∃ h, L_X11_copy_91 mitems (nI a) (nI i) (nI n) kx FUEL (0, hand) = kx (nI n, h) ∧ ∀ t, t < n → h t = mitems (24 * a + i + t) := by
  unfold L_X11_copy_91
  refine upQ _ (fun o => ∃ h, o = kx (nI n, h) ∧ ∀ t, t < n → h t = mitems (24 * a + i + t)) n (fun k h => ∀ t, t < k → h t = mitems (24 * a + i + t)) (by omega) ?_ ?_ (j := 0) (by omega) (fun t ht => absurd ht (by omega))
  · intro k h hk hI
    refine Or.inr ⟨vp_updL h k (mitems (24 * a + i + k)), fun t ht => ?_, fun rec => ?_⟩
    · by_cases e : t = k
      · rw [e, pk_uLs]
      · rw [pk_uLn e]; exact hI t (by omega)
    · show LB_X11_copy_91 _ _ _ _ _ rec (nI k) h = _
      unfold LB_X11_copy_91
      simp (disch := omega) only [lit, nI_add, pk_mul, nI_subT, nI_m1T, nI_clamp, nI_ltI, nI_leI, nI_eq, inb_T, ob_tt, Option.bind_some, ↓reduceIte, shl1_n, shr_n', and_n, or_n, xor_n, n31, dvd_n, pk_us, pk_un, gt_iff_lt, ge_iff_le, m1lt, m1ge]
      rw [if_neg (by omega)]
  · intro h hI rec
    refine ⟨h, ?_, hI⟩
    show LB_X11_copy_91 _ _ _ _ _ rec (nI n) h = _
    unfold LB_X11_copy_91
    simp (disch := omega) only [lit, nI_add, pk_mul, nI_subT, nI_m1T, nI_clamp, nI_ltI, nI_leI, nI_eq, inb_T, ob_tt, Option.bind_some, ↓reduceIte, shl1_n, shr_n', and_n, or_n, xor_n, n31, dvd_n, pk_us, pk_un, gt_iff_lt, ge_iff_le, m1lt, m1ge]
    rw [if_pos (Nat.le_refl _)]
theorem copyB {mitems hand : Nat → Int64} {a i n : Nat} (ha : a < 4) (hi : i + n ≤ 24) (kx : Int32 × (Nat → Int64) → Option (Int32 × (Nat → Int64) × (Nat → Int64))) : ∃ h, L_X11_copy_128 hand (nI a) (nI i) (nI n) kx FUEL (0, mitems) = kx (nI n, h) ∧ ∀ x, h x = if 24 * a + i ≤ x ∧ x < 24 * a + i + n then hand (x - (24 * a + i)) else mitems x := by
  unfold L_X11_copy_128
  refine upQ _ (fun o => ∃ h, o = kx (nI n, h) ∧ ∀ x, h x = if 24 * a + i ≤ x ∧ x < 24 * a + i + n then hand (x - (24 * a + i)) else mitems x) n (fun k h => ∀ x, h x = if 24 * a + i ≤ x ∧ x < 24 * a + i + k then hand (x - (24 * a + i)) else mitems x) (by omega) ?_ ?_ (j := 0) (by omega) (fun x => by rw [if_neg (by omega)])
  · intro k h hk hI
    refine Or.inr ⟨vp_updL h (24 * a + i + k) (hand k), fun x => ?_, fun rec => ?_⟩
    · by_cases e : x = 24 * a + i + k
      · rw [e, pk_uLs, if_pos (by omega), show 24 * a + i + k - (24 * a + i) = k by omega]
      · rw [pk_uLn e, hI x]
        by_cases e2 : 24 * a + i ≤ x ∧ x < 24 * a + i + k
        · rw [if_pos e2, if_pos (by omega)]
        · rw [if_neg e2, if_neg (by omega)]
    · show LB_X11_copy_128 _ _ _ _ _ rec (nI k) h = _
      unfold LB_X11_copy_128
      simp (disch := omega) only [lit, nI_add, pk_mul, nI_subT, nI_m1T, nI_clamp, nI_ltI, nI_leI, nI_eq, inb_T, ob_tt, Option.bind_some, ↓reduceIte, shl1_n, shr_n', and_n, or_n, xor_n, n31, dvd_n, pk_us, pk_un, gt_iff_lt, ge_iff_le, m1lt, m1ge]
      rw [if_neg (by omega)]
  · intro h hI rec
    refine ⟨h, ?_, hI⟩
    show LB_X11_copy_128 _ _ _ _ _ rec (nI n) h = _
    unfold LB_X11_copy_128
    simp (disch := omega) only [lit, nI_add, pk_mul, nI_subT, nI_m1T, nI_clamp, nI_ltI, nI_leI, nI_eq, inb_T, ob_tt, Option.bind_some, ↓reduceIte, shl1_n, shr_n', and_n, or_n, xor_n, n31, dvd_n, pk_us, pk_un, gt_iff_lt, ge_iff_le, m1lt, m1ge]
    rw [if_pos (Nat.le_refl _)]
theorem c_copy {there lane length : Nat → Int32} {items : Nat → Nat → Int64} {lanes longs : Nat → Int32} {mitems hand : Nat → Int64} (hS : RelS there lane length items lanes longs mitems) (p0 p1 p2 p3 p4 : Int32) : ∃ (rx : Int32 × (Nat → Nat → Int64)) (ry : Int32 × (Nat → Int64) × (Nat → Int64)), f_X10_copy there lane length items p0 p1 p2 p3 p4 = some rx ∧ f_X11_copy lanes longs mitems hand p0 p1 p2 p3 p4 = some ry ∧ rx.1 = ry.1 ∧ RelS there lane length rx.2 lanes longs ry.2.1 := by
  have keep : ∀ v : Int32, ∃ (rx : Int32 × (Nat → Nat → Int64)) (ry : Int32 × (Nat → Int64) × (Nat → Int64)), some (v, items) = some rx ∧ some (v, mitems, hand) = some ry ∧ rx.1 = ry.1 ∧ RelS there lane length rx.2 lanes longs ry.2.1 := fun v => ⟨_, _, rfl, rfl, rfl, hS⟩
  unfold f_X10_copy f_X11_copy B_X10_copy_18 B_X11_copy_14 B_X10_copy_52 B_X11_copy_34 B_X10_copy_94 B_X11_copy_78 B_X11_copy_125 B_X11_copy_163
  rw [within_ok, within_ok, isSheet_ok, isSheet_ok]
  simp only [Option.bind_some]
  by_cases h0 : (0 : Int32) ≤ p0 ∧ p0 ≤ 3
  · rw [if_pos h0, if_neg n10, if_neg n10]
    by_cases h2 : (0 : Int32) ≤ p2 ∧ p2 ≤ 3
    · rw [if_pos h2, if_neg n10, if_neg n10]
      obtain ⟨a, ha, rfl⟩ := nat_of (N := 3) (M := 3) (by decide) h0
      obtain ⟨b, hb, rfl⟩ := nat_of (N := 3) (M := 3) (by decide) h2
      have ia : inb (nI a) 4 = true := inb_nI (by omega) (by decide)
      have ib : inb (nI b) 4 = true := inb_nI (by omega) (by decide)
      rw [ob_t ia, ob_t ib, ob_t ia, ob_t ib, ob_t ia, ob_t ib, nI_clamp (by omega), nI_clamp (by omega)]
      obtain ⟨⟨La, hLa, ea1, ea2⟩, ta, ga⟩ := hS a (by omega)
      obtain ⟨⟨Lb, hLb, eb1, eb2⟩, tb, gb⟩ := hS b (by omega)
      rcases ta with ⟨ea3, ea4⟩ | ⟨ea3, la, hla, ea5, ea6⟩
      · rw [ea3, if_pos rfl, ea4, if_pos (by decide)]
        exact keep _
      · rw [ea3, if_neg n10, ea6, if_neg (nI_pos (by omega))]
        rcases tb with ⟨eb3, eb4⟩ | ⟨eb3, lb, hlb, eb5, eb6⟩
        · rw [eb3, if_pos rfl, eb4, if_neg (by decide)]
          exact keep _
        · rw [eb3, if_neg n10, eb6, if_pos (nI_pos' (by omega)), ea5, eb5, barsQ hS (by omega) hLa ea1 ea3 ea5, barsQ hS (by omega) hLb eb1 eb3 eb5, ea1, eb1, spans_ok hLa, spans_ok hLb]
          simp only [Option.bind_some]
          by_cases hl : nI la = nI lb
          · rw [if_pos hl, if_pos hl, if_pos hl.symm]
            by_cases c1 : 0 ≤ p1.toInt ∧ 0 ≤ p4.toInt ∧ p1.toInt + p4.toInt ≤ La
            · rw [if_pos c1, if_pos c1, if_neg n10, if_pos rfl]
              by_cases c2 : 0 ≤ p3.toInt ∧ 0 ≤ p4.toInt ∧ p3.toInt + p4.toInt ≤ Lb
              · rw [if_pos c2, if_pos c2, if_neg n10, if_pos rfl]
                obtain ⟨i, rfl, ei, hi⟩ := nat_of_toInt c1.1
                obtain ⟨n, rfl, en, hn⟩ := nat_of_toInt c1.2.1
                obtain ⟨j, rfl, ej, hj⟩ := nat_of_toInt c2.1
                have h1 : i + n ≤ 24 := by omega
                have h2 : j + n ≤ 24 := by omega
                obtain ⟨h, eh, hh⟩ := copyA (mitems := mitems) (hand := hand) (a := a) (by omega) h1 (fun t => L_X11_copy_128 t.2 (nI b) (nI j) (nI n) (fun t_1 => some (nI n, t_1.2, t.2)) FUEL (0, mitems))
                obtain ⟨g, eg, hg⟩ := copyB (mitems := mitems) (hand := h) (a := b) (i := j) (n := n) (by omega) h2 (fun t_1 => some (nI n, t_1.2, h))
                rw [eh, eg, ob_t (by
                  unfold cpb
                  rw [nI_clamp hi, nI_clamp hj, nI_clamp hn]
                  simp [nI_pos hi, nI_pos hj, nI_pos hn, h1, h2]), nI_clamp hi, nI_clamp hj, nI_clamp hn]
                refine ⟨_, _, rfl, rfl, rfl, fun q hq => ?_⟩
                obtain ⟨s1, s2, s3⟩ := hS q hq
                refine ⟨s1, s2, fun x hx => ?_⟩
                show va_up items b (va_cpy (items a) (items b) i j n) q x = g (24 * q + x)
                rw [hg]
                unfold va_up
                by_cases hqb : q = b
                · rw [if_pos hqb, hqb]
                  by_cases hx2 : j ≤ x ∧ x < j + n
                  · rw [pk_cpy_in hx2.1 hx2.2, if_pos (by omega), hh _ (by omega), ga _ (by omega)]
                    congr 1; omega
                  · rw [pk_cpy_out (by omega), if_neg (by omega)]
                    exact gb x hx
                · rw [if_neg hqb, if_neg (by omega)]
                  exact s3 x hx
              · rw [if_neg c2, if_neg c2, if_pos rfl, if_neg (by decide)]
                exact keep _
            · rw [if_neg c1, if_neg c1, if_pos rfl, if_neg (by decide), if_neg (by decide)]
              exact keep _
          · rw [if_neg hl, if_neg hl, if_neg (by decide), if_neg (by decide)]
            exact keep _
    · rw [if_neg h2, if_pos rfl, if_pos rfl]
      exact keep _
  · rw [if_neg h0, if_pos rfl, if_pos rfl]
    exact keep _
