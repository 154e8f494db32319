/-! count, piece, film -/
theorem div_ok {kd n : Nat} {w : Nat → Nat} {cs : List Nat} {kind links cutCount : Int32} {worths ahead cuts : Nat → Int32} (hV : ChV kd n w cs) (hCC : ChC kd n w cs kind links cutCount worths ahead cuts) (f s v : Nat → Int32) : (pcs kd n w cs).length ≤ 11 ∧ ∃ f' s' v', f_X10_divide kind links cutCount f s v ahead worths cuts = some (nI (pcs kd n w cs).length, f', s', v') ∧ PA (pcs kd n w cs) f' s' v' := by
  obtain ⟨c1, c2, c3, c4, c5, c6⟩ := hCC
  obtain ⟨h1, f', s', v', e, h2⟩ := split_ok hV c5 c4 c6 (z1 := 5) hV.2.2.2.2.1 (by decide) f s v
  refine ⟨h1, f', s', v', ?_, h2⟩
  unfold f_X10_divide
  rw [c1, c2, c3, e]
  rfl
theorem layN_ok {kd n : Nat} {w : Nat → Nat} {cs : List Nat} {mw : Nat → Int32} (hV : ChV kd n w cs) (hM : ChM kd n w cs 0 mw) (f s v : Nat → Int32) : ∃ f' s' v', f_X11_layNow mw f s v = some (nI (pcs kd n w cs).length, f', s', v') ∧ PA (pcs kd n w cs) f' s' v' := by
  obtain ⟨m1, m2, m3, m4⟩ := hM
  obtain ⟨f', s', v', e, h2⟩ := lay_ok hV m1 m2 (fun i hi => by have := m3 i hi; rw [Nat.zero_add] at this; exact this) f s v
  refine ⟨f', s', v', ?_, h2⟩
  unfold f_X11_layNow
  rw [ob_t (by decide), show mw (26 : Int32).toNatClampNeg = nI (mask cs) from m4, e]
  rfl
def pv (P : List (Nat × Nat × Nat)) (i : Nat) : Nat := (P.getD i (0, 0, 0)).2.2
theorem whole_ok {P : List (Nat × Nat × Nat)} {f s v : Nat → Int32} (h : P.length ≤ 11) (hP : PA P f s v) : f_X5_whole (nI P.length) v = some (nI (pre (pv P) P.length)) := by
  unfold f_X5_whole L_X5_whole_4
  refine loopQ _ (fun o => o = some (nI (pre (pv P) P.length))) (fun m a => ∃ i, a = (nI (pre (pv P) i), nI i) ∧ i ≤ P.length ∧ m = P.length - i) ?_ FUEL P.length _ ⟨0, rfl, by omega, by omega⟩ (fuel_lt (by omega))
  rintro m a ⟨i, rfl, hi, rfl⟩
  by_cases e : i = P.length
  · subst e
    refine Or.inl (fun rec => ?_)
    show LB_X5_whole_4 _ _ _ rec (nI _) (nI P.length) = _
    unfold LB_X5_whole_4
    rw [if_pos (nI_le (Nat.le_refl _) (by omega))]
    rfl
  · refine Or.inr ⟨P.length - (i + 1), (nI (pre (pv P) (i + 1)), nI (i + 1)), by omega, ⟨i + 1, rfl, by omega, rfl⟩, fun rec => ?_⟩
    show LB_X5_whole_4 _ _ _ rec (nI _) (nI i) = _
    unfold LB_X5_whole_4
    simp (disch := omega) only [lit, nI_add, pk_mul, nI_subT, nI_m1T, nI_clamp, nI_ltI, nI_leI, nI_eq, inb_T, ob_tt, Option.bind_some, ↓reduceIte, shl1_n, shr_n', and_n, or_n, xor_n, n31, dvd_n, pk_us, pk_un, gt_iff_lt, ge_iff_le, m1lt, m1ge, (hP i (by omega)).2.2]
    rw [if_neg (by omega)]
    rfl
theorem allWorth_ok {P : List (Nat × Nat × Nat)} {f s v : Nat → Int32} (h : P.length ≤ 11) (hP : PA P f s v) : f_X11_allWorth (nI P.length) v = some (nI (pre (pv P) P.length)) := by
  unfold f_X11_allWorth L_X11_allWorth_4
  refine loopQ _ (fun o => o = some (nI (pre (pv P) P.length))) (fun m a => ∃ i, a = (nI (pre (pv P) i), nI i) ∧ i ≤ P.length ∧ m = P.length - i) ?_ FUEL P.length _ ⟨0, rfl, by omega, by omega⟩ (fuel_lt (by omega))
  rintro m a ⟨i, rfl, hi, rfl⟩
  by_cases e : i = P.length
  · subst e
    refine Or.inl (fun rec => ?_)
    show LB_X11_allWorth_4 _ _ _ rec (nI _) (nI P.length) = _
    unfold LB_X11_allWorth_4
    rw [if_pos (nI_le (Nat.le_refl _) (by omega))]
    rfl
  · refine Or.inr ⟨P.length - (i + 1), (nI (pre (pv P) (i + 1)), nI (i + 1)), by omega, ⟨i + 1, rfl, by omega, rfl⟩, fun rec => ?_⟩
    show LB_X11_allWorth_4 _ _ _ rec (nI _) (nI i) = _
    unfold LB_X11_allWorth_4
    simp (disch := omega) only [lit, nI_add, pk_mul, nI_subT, nI_m1T, nI_clamp, nI_ltI, nI_leI, nI_eq, inb_T, ob_tt, Option.bind_some, ↓reduceIte, shl1_n, shr_n', and_n, or_n, xor_n, n31, dvd_n, pk_us, pk_un, gt_iff_lt, ge_iff_le, m1lt, m1ge, (hP i (by omega)).2.2]
    rw [if_neg (by omega)]
    rfl
theorem tq_count {x_hasImage : Int32} {x_chain_kind : Int32} {x_chain_links : Int32} {x_chain_cutCount : Int32} {x_best_known : Nat → Int32} {x_chain_worths : Nat → Int32} {x_chain_ahead : Nat → Int32} {x_chain_cuts : Nat → Int32} {x_tape_length : Int32} {x_tape_bytes : Nat → Int32} {x_draft_ahead : Nat → Int32} {x_pieces_count : Int32} {x_pieces_first : Nat → Int32} {x_pieces_size : Nat → Int32} {x_pieces_value : Nat → Int32} {x_days_each : Int32} {x_days_off : Int32} {x_days_twice : Int32} {x_days_dues : Nat → Int32} {x_sets_whole : Int32} {x_sets_pieceCount : Int32} {x_sets_lookedBack : Int32} {x_sets_worths : Nat → Int32} {x_sets_ends : Nat → Int32} {x_sets_order : Nat → Int32} {x_sets_notes : Nat → Int32} {x_best_far : Nat → Int32} {x_best_rows : Nat → Nat → Int32} {x_sets_lookedAt : Nat → Int32} {x_imageChain_kind : Int32} {x_imageChain_links : Int32} {x_imageChain_cutCount : Int32} {x_imageChain_worths : Nat → Int32} {x_imageChain_ahead : Nat → Int32} {x_imageChain_cuts : Nat → Int32} {x_imageDays_each : Int32} {x_imageDays_off : Int32} {x_imageDays_twice : Int32} {x_imageDays_dues : Nat → Int32} {x_sheets_there : Nat → Int32} {x_sheets_lane : Nat → Int32} {x_sheets_length : Nat → Int32} {x_sheets_items : Nat → Nat → Int64} {y_isKept : Int32} {y_taped : Int32} {y_w : Nat → Int32} {y_firsts : Nat → Int32} {y_sizes : Nat → Int32} {y_worths : Nat → Int32} {y_tape : Nat → Int32} {y_lanes : Nat → Int32} {y_longs : Nat → Int32} {y_items : Nat → Int64} (hR : Rel x_chain_kind x_chain_links x_chain_cutCount x_chain_worths x_chain_ahead x_chain_cuts x_days_each x_days_off x_days_twice x_days_dues x_best_known x_best_far x_best_rows x_hasImage x_imageChain_kind x_imageChain_links x_imageChain_cutCount x_imageChain_worths x_imageChain_ahead x_imageChain_cuts x_imageDays_each x_imageDays_off x_imageDays_twice x_imageDays_dues x_tape_length x_tape_bytes x_sheets_there x_sheets_lane x_sheets_length x_sheets_items x_draft_ahead x_sets_whole x_sets_pieceCount x_sets_lookedBack x_sets_worths x_sets_lookedAt x_sets_ends x_sets_order x_sets_notes y_w y_isKept y_taped y_tape y_lanes y_longs y_items) (p0 : Int32) : ∃ (rx : Int32 × Int32 × (Nat → Int32) × (Nat → Int32) × (Nat → Int32)) (ry : Int32 × Int32 × (Nat → Int32) × (Nat → Int32) × (Nat → Int32)), f_X10_count x_chain_kind x_chain_links x_chain_cutCount x_pieces_count x_pieces_first x_pieces_size x_pieces_value x_chain_ahead x_chain_worths x_chain_cuts p0 = some rx ∧ f_X11_count y_w y_firsts y_sizes y_worths p0 = some ry ∧ rx.1 = ry.1 ∧ Rel x_chain_kind x_chain_links x_chain_cutCount x_chain_worths x_chain_ahead x_chain_cuts x_days_each x_days_off x_days_twice x_days_dues x_best_known x_best_far x_best_rows x_hasImage x_imageChain_kind x_imageChain_links x_imageChain_cutCount x_imageChain_worths x_imageChain_ahead x_imageChain_cuts x_imageDays_each x_imageDays_off x_imageDays_twice x_imageDays_dues x_tape_length x_tape_bytes x_sheets_there x_sheets_lane x_sheets_length x_sheets_items x_draft_ahead x_sets_whole x_sets_pieceCount x_sets_lookedBack x_sets_worths x_sets_lookedAt x_sets_ends x_sets_order x_sets_notes y_w y_isKept y_taped y_tape y_lanes y_longs y_items := by
  obtain ⟨kd, n, w, cs, r, off, dbl, hV, hCC, hM, hDV, hDC, hD, hB⟩ := id hR.1
  have hN := notchN_le (kd := kd) (n := n)
  obtain ⟨g1, g2, g3, g4, g5, g6, g7⟩ := id hV
  obtain ⟨m1, m2, m3, m4⟩ := id hM
  have hb31 : ∀ x ∈ cs, x < 31 := fun x hx => by have := g7 x hx; omega
  obtain ⟨hl, f1, s1, v1, e1, p1⟩ := div_ok hV hCC x_pieces_first x_pieces_size x_pieces_value
  obtain ⟨f2, s2, v2, e2, p2⟩ := layN_ok hV hM y_firsts y_sizes y_worths
  unfold f_X10_count f_X11_count
  rw [e2, e1]
  simp only [Option.bind_some]
  rw [whole_ok hl p1, allWorth_ok hl p2, hCC.1, hCC.2.1, hCC.2.2.1, notches_ok g1 g2 g3, notchesM_ok g1 g2 g3 m1 m2, ob_t (by decide), ob_t (by decide), ob_t (by decide), show y_w (26 : Int32).toNatClampNeg = nI (mask cs) from m4, ones_ok g6 hb31, show y_w (1 : Int32).toNatClampNeg = nI n from m2, show y_w (0 : Int32).toNatClampNeg = nI kd from m1]
  rw [hCC.1, hCC.2.1, hCC.2.2.1] at hR
  by_cases q0 : p0 = 0
  · rw [if_pos q0, if_pos q0]; exact ⟨_, _, rfl, rfl, rfl, hR⟩
  · rw [if_neg q0, if_neg q0]
    by_cases q1 : p0 = 1
    · rw [if_pos q1, if_pos q1]; exact ⟨_, _, rfl, rfl, rfl, hR⟩
    · rw [if_neg q1, if_neg q1]
      by_cases q2 : p0 = 2
      · rw [if_pos q2, if_pos q2]; exact ⟨_, _, rfl, rfl, rfl, hR⟩
      · rw [if_neg q2, if_neg q2]
        by_cases q3 : p0 = 3
        · rw [if_pos q3, if_pos q3]; exact ⟨_, _, rfl, rfl, rfl, hR⟩
        · rw [if_neg q3, if_neg q3]
          by_cases q4 : p0 = 4
          · rw [if_pos q4, if_pos q4]; exact ⟨_, _, rfl, rfl, rfl, hR⟩
          · rw [if_neg q4, if_neg q4]
            by_cases q5 : p0 = 5
            · rw [if_pos q5, if_pos q5]; exact ⟨_, _, rfl, rfl, rfl, hR⟩
            · rw [if_neg q5, if_neg q5]; exact ⟨_, _, rfl, rfl, rfl, hR⟩
theorem idx_of {L : Nat} (hL : L < 2 ^ 31) {p : Int32} (h : (0 : Int32) ≤ p ∧ p ≤ nI L - 1) : ∃ j, j < L ∧ p = nI j := by
  obtain ⟨j, hj, rfl⟩ := nI_of (Int32.not_lt.mpr h.1)
  have hh := h.2
  by_cases h0 : L = 0
  · rw [h0] at hh
    exact absurd (Int32.le_trans (nI_pos' hj) hh) (by decide)
  · rw [lit, nI_subT (by omega)] at hh
    have := (nI_leI hj (by omega)).mp hh
    exact ⟨j, by omega, rfl⟩
theorem tq_piece {x_hasImage : Int32} {x_chain_kind : Int32} {x_chain_links : Int32} {x_chain_cutCount : Int32} {x_best_known : Nat → Int32} {x_chain_worths : Nat → Int32} {x_chain_ahead : Nat → Int32} {x_chain_cuts : Nat → Int32} {x_tape_length : Int32} {x_tape_bytes : Nat → Int32} {x_draft_ahead : Nat → Int32} {x_pieces_first : Nat → Int32} {x_pieces_size : Nat → Int32} {x_pieces_value : Nat → Int32} {x_days_each : Int32} {x_days_off : Int32} {x_days_twice : Int32} {x_days_dues : Nat → Int32} {x_sets_whole : Int32} {x_sets_pieceCount : Int32} {x_sets_lookedBack : Int32} {x_sets_worths : Nat → Int32} {x_sets_ends : Nat → Int32} {x_sets_order : Nat → Int32} {x_sets_notes : Nat → Int32} {x_best_far : Nat → Int32} {x_best_rows : Nat → Nat → Int32} {x_sets_lookedAt : Nat → Int32} {x_imageChain_kind : Int32} {x_imageChain_links : Int32} {x_imageChain_cutCount : Int32} {x_imageChain_worths : Nat → Int32} {x_imageChain_ahead : Nat → Int32} {x_imageChain_cuts : Nat → Int32} {x_imageDays_each : Int32} {x_imageDays_off : Int32} {x_imageDays_twice : Int32} {x_imageDays_dues : Nat → Int32} {x_sheets_there : Nat → Int32} {x_sheets_lane : Nat → Int32} {x_sheets_length : Nat → Int32} {x_sheets_items : Nat → Nat → Int64} {y_isKept : Int32} {y_taped : Int32} {y_w : Nat → Int32} {y_firsts : Nat → Int32} {y_sizes : Nat → Int32} {y_worths : Nat → Int32} {y_tape : Nat → Int32} {y_lanes : Nat → Int32} {y_longs : Nat → Int32} {y_items : Nat → Int64} (hR : Rel x_chain_kind x_chain_links x_chain_cutCount x_chain_worths x_chain_ahead x_chain_cuts x_days_each x_days_off x_days_twice x_days_dues x_best_known x_best_far x_best_rows x_hasImage x_imageChain_kind x_imageChain_links x_imageChain_cutCount x_imageChain_worths x_imageChain_ahead x_imageChain_cuts x_imageDays_each x_imageDays_off x_imageDays_twice x_imageDays_dues x_tape_length x_tape_bytes x_sheets_there x_sheets_lane x_sheets_length x_sheets_items x_draft_ahead x_sets_whole x_sets_pieceCount x_sets_lookedBack x_sets_worths x_sets_lookedAt x_sets_ends x_sets_order x_sets_notes y_w y_isKept y_taped y_tape y_lanes y_longs y_items) (p0 : Int32) (p1 : Int32) : ∃ (rx : Int32 × Int32 × (Nat → Int32) × (Nat → Int32) × (Nat → Int32)) (ry : Int32 × Int32 × (Nat → Int32) × (Nat → Int32) × (Nat → Int32)), f_X10_piece x_chain_kind x_chain_links x_chain_cutCount x_pieces_first x_pieces_size x_pieces_value x_chain_ahead x_chain_worths x_chain_cuts p0 p1 = some rx ∧ f_X11_piece y_w y_firsts y_sizes y_worths p0 p1 = some ry ∧ rx.1 = ry.1 ∧ Rel x_chain_kind x_chain_links x_chain_cutCount x_chain_worths x_chain_ahead x_chain_cuts x_days_each x_days_off x_days_twice x_days_dues x_best_known x_best_far x_best_rows x_hasImage x_imageChain_kind x_imageChain_links x_imageChain_cutCount x_imageChain_worths x_imageChain_ahead x_imageChain_cuts x_imageDays_each x_imageDays_off x_imageDays_twice x_imageDays_dues x_tape_length x_tape_bytes x_sheets_there x_sheets_lane x_sheets_length x_sheets_items x_draft_ahead x_sets_whole x_sets_pieceCount x_sets_lookedBack x_sets_worths x_sets_lookedAt x_sets_ends x_sets_order x_sets_notes y_w y_isKept y_taped y_tape y_lanes y_longs y_items := by
  obtain ⟨kd, n, w, cs, r, off, dbl, hV, hCC, hM, hDV, hDC, hD, hB⟩ := id hR.1
  obtain ⟨hl, f1, s1, v1, e1, pa1⟩ := div_ok hV hCC x_pieces_first x_pieces_size x_pieces_value
  obtain ⟨f2, s2, v2, e2, pa2⟩ := layN_ok hV hM y_firsts y_sizes y_worths
  unfold f_X10_piece f_X11_piece B_X11_piece_32 B_X11_piece_67
  rw [e1, e2, Option.bind_some, Option.bind_some, within_ok, show (0 : Int64) = (0 : Int32).toInt64 from rfl, show (2 : Int64) = (2 : Int32).toInt64 from rfl, in_int, in_int]
  simp only [Option.bind_some]
  by_cases h : (0 : Int32) ≤ p0 ∧ p0 ≤ nI (pcs kd n w cs).length - 1
  · rw [if_pos h, if_neg n10, if_neg n10]
    obtain ⟨j, hj, rfl⟩ := idx_of (by omega) h
    obtain ⟨a1, a2, a3⟩ := pa1 j hj
    obtain ⟨b1, b2, b3⟩ := pa2 j hj
    have i1 : inb (nI j) 11 = true := inb_nI (by omega) (by decide)
    have i2 : inb (nI j) 24 = true := inb_nI (by omega) (by decide)
    rw [ob_t i1, ob_t i1, ob_t i1, ob_t i2, ob_t i2, ob_t i2, nI_clamp (by omega), a1, a2, a3, b1, b2, b3]
    by_cases q0 : p1 = 0
    · rw [if_pos q0, if_pos (show (0 : Int32) ≤ p1 ∧ p1 ≤ 2 by rw [q0]; decide), if_neg n10, if_pos q0]; exact ⟨_, _, rfl, rfl, rfl, hR⟩
    · rw [if_neg q0]
      by_cases q1 : p1 = 1
      · rw [if_pos q1, if_pos (show (0 : Int32) ≤ p1 ∧ p1 ≤ 2 by rw [q1]; decide), if_neg n10, if_neg q0, if_pos q1]; exact ⟨_, _, rfl, rfl, rfl, hR⟩
      · rw [if_neg q1]
        by_cases q2 : p1 = 2
        · rw [if_pos q2, if_pos (show (0 : Int32) ≤ p1 ∧ p1 ≤ 2 by rw [q2]; decide), if_neg n10, if_neg q0, if_neg q1]; exact ⟨_, _, rfl, rfl, rfl, hR⟩
        · rw [if_neg q2, if_neg (show ¬ ((0 : Int32) ≤ p1 ∧ p1 ≤ 2) from fun z => by
            obtain ⟨t, ht, rfl⟩ := nat_of (N := 2) (M := 2) (by decide) z
            have : t = 0 ∨ t = 1 ∨ t = 2 := by omega
            rcases this with rfl | rfl | rfl
            · exact q0 rfl
            · exact q1 rfl
            · exact q2 rfl), if_pos rfl]; exact ⟨_, _, rfl, rfl, rfl, hR⟩
  · rw [if_neg h, if_pos rfl, if_pos rfl]; exact ⟨_, _, rfl, rfl, rfl, hR⟩
theorem filmC {q la i L : Nat} {v : Nat → Int32} {lane : Nat → Int32} {items : Nat → Nat → Int64} (hq : q < 4) (hla : la < 3) (el : lane q = nI la) (hi : i + L ≤ 24) (hL : L ≤ 11) (kx : Int32 × (Nat → Nat → Int64) → Option (Int32 × Int32 × (Nat → Int32) × (Nat → Int32) × (Nat → Int32) × (Nat → Nat → Int64))) : ∃ it, L_X10_film_45 (nI L) v lane (nI q) (nI i) kx FUEL (0, items) = kx (nI L, it) ∧ ∀ a x, it a x = if a = q ∧ i ≤ x ∧ x < i + L then cutL la (v (x - i)).toInt64 else items a x := by
  unfold L_X10_film_45
  refine upQ _ (fun o => ∃ it, o = kx (nI L, it) ∧ ∀ a x, it a x = if a = q ∧ i ≤ x ∧ x < i + L then cutL la (v (x - i)).toInt64 else items a x) L (fun k it => ∀ a x, it a x = if a = q ∧ i ≤ x ∧ x < i + k then cutL la (v (x - i)).toInt64 else items a x) (by omega) ?_ ?_ (j := 0) (by omega) (fun a x => by rw [if_neg (by omega)])
  · intro k it hk hI
    refine Or.inr ⟨va_up it q (vp_updL (it q) (i + k) (cutL la (v k).toInt64)), fun a x => ?_, fun rec => ?_⟩
    · unfold va_up
      by_cases e : a = q
      · rw [if_pos e]
        by_cases e2 : x = i + k
        · rw [e2, pk_uLs, if_pos (by omega), show i + k - i = k by omega]
        · rw [pk_uLn e2, hI q x]
          by_cases e3 : q = q ∧ i ≤ x ∧ x < i + k
          · rw [if_pos e3, if_pos (by omega)]
          · rw [if_neg e3, if_neg (by omega), e]
      · rw [if_neg e, hI a x, if_neg (by omega), if_neg (by omega)]
    · show LB_X10_film_45 _ _ _ _ _ _ rec (nI k) it = _
      unfold LB_X10_film_45
      rw [if_neg (nI_ge hk (by omega)), ob_t (inb_nI hq (by decide)), ob_t (inb_nI (by omega) (by decide)), nI_clamp (by omega), nI_clamp (by omega), el, nI_add, put_ok hla (by omega), Option.bind_some, nI_1]
  · intro it hI rec
    refine ⟨it, ?_, hI⟩
    show LB_X10_film_45 _ _ _ _ _ _ rec (nI L) it = _
    unfold LB_X10_film_45
    rw [if_pos (nI_le (Nat.le_refl _) (by omega))]
theorem filmM {q la i L : Nat} {v : Nat → Int32} {items : Nat → Int64} (hq : q < 4) (hla : la < 3) (hi : i + L ≤ 24) (hL : L ≤ 11) (kx : Int32 × (Nat → Int64) → Option (Int32 × Int32 × (Nat → Int32) × (Nat → Int32) × (Nat → Int32) × (Nat → Int64))) : ∃ it, L_X11_film_49 (nI L) v (nI q) (nI la) (nI i) kx FUEL (0, items) = kx (nI L, it) ∧ ∀ x, it x = if 24 * q + i ≤ x ∧ x < 24 * q + i + L then cutL la (v (x - (24 * q + i))).toInt64 else items x := by
  unfold L_X11_film_49
  refine upQ _ (fun o => ∃ it, o = kx (nI L, it) ∧ ∀ x, it x = if 24 * q + i ≤ x ∧ x < 24 * q + i + L then cutL la (v (x - (24 * q + i))).toInt64 else items x) L (fun k it => ∀ x, it x = if 24 * q + i ≤ x ∧ x < 24 * q + i + k then cutL la (v (x - (24 * q + i))).toInt64 else items x) (by omega) ?_ ?_ (j := 0) (by omega) (fun x => by rw [if_neg (by omega)])
  · intro k it hk hI
    refine Or.inr ⟨vp_updL it (24 * q + i + k) (cutL la (v k).toInt64), fun x => ?_, fun rec => ?_⟩
    · by_cases e2 : x = 24 * q + i + k
      · rw [e2, pk_uLs, if_pos (by omega), show 24 * q + i + k - (24 * q + i) = k by omega]
      · rw [pk_uLn e2, hI x]
        by_cases e3 : 24 * q + i ≤ x ∧ x < 24 * q + i + k
        · rw [if_pos e3, if_pos (by omega)]
        · rw [if_neg e3, if_neg (by omega)]
    · show LB_X11_film_49 _ _ _ _ _ _ rec (nI k) it = _
      unfold LB_X11_film_49
      rw [if_neg (nI_ge hk (by omega)), ob_t (inb_nI (by omega) (by decide)), nI_clamp (by omega), cutTo_ok hla, Option.bind_some, show (24 : Int32) * nI q = nI (24 * q) from pk_mul 24 q, nI_add, nI_add, ob_t (inb_nI (by omega) (by decide)), nI_clamp (by omega), nI_1]
  · intro it hI rec
    refine ⟨it, ?_, hI⟩
    show LB_X11_film_49 _ _ _ _ _ _ rec (nI L) it = _
    unfold LB_X11_film_49
    rw [if_pos (nI_le (Nat.le_refl _) (by omega))]
theorem tq_film {x_hasImage : Int32} {x_chain_kind : Int32} {x_chain_links : Int32} {x_chain_cutCount : Int32} {x_best_known : Nat → Int32} {x_chain_worths : Nat → Int32} {x_chain_ahead : Nat → Int32} {x_chain_cuts : Nat → Int32} {x_tape_length : Int32} {x_tape_bytes : Nat → Int32} {x_draft_ahead : Nat → Int32} {x_pieces_count : Int32} {x_pieces_first : Nat → Int32} {x_pieces_size : Nat → Int32} {x_pieces_value : Nat → Int32} {x_days_each : Int32} {x_days_off : Int32} {x_days_twice : Int32} {x_days_dues : Nat → Int32} {x_sets_whole : Int32} {x_sets_pieceCount : Int32} {x_sets_lookedBack : Int32} {x_sets_worths : Nat → Int32} {x_sets_ends : Nat → Int32} {x_sets_order : Nat → Int32} {x_sets_notes : Nat → Int32} {x_best_far : Nat → Int32} {x_best_rows : Nat → Nat → Int32} {x_sets_lookedAt : Nat → Int32} {x_imageChain_kind : Int32} {x_imageChain_links : Int32} {x_imageChain_cutCount : Int32} {x_imageChain_worths : Nat → Int32} {x_imageChain_ahead : Nat → Int32} {x_imageChain_cuts : Nat → Int32} {x_imageDays_each : Int32} {x_imageDays_off : Int32} {x_imageDays_twice : Int32} {x_imageDays_dues : Nat → Int32} {x_sheets_there : Nat → Int32} {x_sheets_lane : Nat → Int32} {x_sheets_length : Nat → Int32} {x_sheets_items : Nat → Nat → Int64} {y_isKept : Int32} {y_taped : Int32} {y_pieces : Int32} {y_w : Nat → Int32} {y_firsts : Nat → Int32} {y_sizes : Nat → Int32} {y_worths : Nat → Int32} {y_tape : Nat → Int32} {y_lanes : Nat → Int32} {y_longs : Nat → Int32} {y_items : Nat → Int64} (hR : Rel x_chain_kind x_chain_links x_chain_cutCount x_chain_worths x_chain_ahead x_chain_cuts x_days_each x_days_off x_days_twice x_days_dues x_best_known x_best_far x_best_rows x_hasImage x_imageChain_kind x_imageChain_links x_imageChain_cutCount x_imageChain_worths x_imageChain_ahead x_imageChain_cuts x_imageDays_each x_imageDays_off x_imageDays_twice x_imageDays_dues x_tape_length x_tape_bytes x_sheets_there x_sheets_lane x_sheets_length x_sheets_items x_draft_ahead x_sets_whole x_sets_pieceCount x_sets_lookedBack x_sets_worths x_sets_lookedAt x_sets_ends x_sets_order x_sets_notes y_w y_isKept y_taped y_tape y_lanes y_longs y_items) (p0 : Int32) (p1 : Int32) (p2 : Int32) : ∃ (rx : Int32 × Int32 × (Nat → Int32) × (Nat → Int32) × (Nat → Int32) × (Nat → Nat → Int64)) (ry : Int32 × Int32 × (Nat → Int32) × (Nat → Int32) × (Nat → Int32) × (Nat → Int64)), f_X10_film x_chain_kind x_chain_links x_chain_cutCount x_pieces_count x_pieces_first x_pieces_size x_pieces_value x_chain_ahead x_chain_worths x_chain_cuts x_sheets_there x_sheets_lane x_sheets_length x_sheets_items p0 p1 p2 = some rx ∧ f_X11_film y_pieces y_w y_firsts y_sizes y_worths y_lanes y_longs y_items p0 p1 p2 = some ry ∧ rx.1 = ry.1 ∧ Rel x_chain_kind x_chain_links x_chain_cutCount x_chain_worths x_chain_ahead x_chain_cuts x_days_each x_days_off x_days_twice x_days_dues x_best_known x_best_far x_best_rows x_hasImage x_imageChain_kind x_imageChain_links x_imageChain_cutCount x_imageChain_worths x_imageChain_ahead x_imageChain_cuts x_imageDays_each x_imageDays_off x_imageDays_twice x_imageDays_dues x_tape_length x_tape_bytes x_sheets_there x_sheets_lane x_sheets_length rx.2.2.2.2.2 x_draft_ahead x_sets_whole x_sets_pieceCount x_sets_lookedBack x_sets_worths x_sets_lookedAt x_sets_ends x_sets_order x_sets_notes y_w y_isKept y_taped y_tape y_lanes y_longs ry.2.2.2.2.2 := by
  obtain ⟨hC, hI, hT, hS⟩ := id hR
  obtain ⟨kd, n, w, cs, r, off, dbl, hV, hCC, hM, hDV, hDC, hD, hB⟩ := id hC
  obtain ⟨hl, f1, s1, v1, e1, q1⟩ := div_ok hV hCC x_pieces_first x_pieces_size x_pieces_value
  obtain ⟨f2, s2, v2, e2, q2⟩ := layN_ok hV hM y_firsts y_sizes y_worths
  unfold f_X10_film f_X11_film B_X11_film_19
  rw [isRow_ok, isSheet_ok, e1, e2, show (0 : Int64) = (0 : Int32).toInt64 from rfl, show (2 : Int64) = (2 : Int32).toInt64 from rfl, in_int]
  simp only [Option.bind_some]
  by_cases h0 : (0 : Int32) ≤ p0 ∧ p0 ≤ 3
  · by_cases h1 : (0 : Int32) ≤ p1 ∧ p1 ≤ 2
    · rw [if_pos (show ((0 : Int32) ≤ p0 ∧ p0 ≤ 3) ∧ ((0 : Int32) ≤ p1 ∧ p1 ≤ 2) from ⟨h0, h1⟩), if_neg n10, if_pos h0, if_neg n10, if_pos h1, if_neg n10]
      obtain ⟨q, hq, rfl⟩ := nat_of (N := 3) (M := 3) (by decide) h0
      obtain ⟨la, hla, rfl⟩ := nat_of (N := 2) (M := 2) (by decide) h1
      rw [ob_t (inb_nI (by omega) (by decide)), nI_clamp (by omega)]
      obtain ⟨z, ez1, ez2, hz⟩ := ref_bars hS (show q < 4 by omega) (nI la) p2 (nI (pcs kd n w cs).length)
      rw [ez1, ez2]
      simp only [Option.bind_some]
      by_cases hz0 : z = 0
      · rw [if_pos hz0, if_pos hz0]
        obtain ⟨l1, l2, l3, L, hL, l4, l5, l6, l7, l8⟩ := hz hz0
        obtain ⟨i, rfl, ei, hi⟩ := nat_of_toInt l6
        rw [← ei, nI_toInt (by omega)] at l8
        have hiL : i + (pcs kd n w cs).length ≤ 24 := by omega
        obtain ⟨it, eit, hit⟩ := filmC (q := q) (la := la) (v := v1) (items := x_sheets_items) (by omega) (by omega) l1 hiL hl (fun t => B_X10_film_87 (nI (pcs kd n w cs).length) f1 s1 v1 t.2)
        obtain ⟨jt, ejt, hjt⟩ := filmM (q := q) (la := la) (v := v2) (items := y_items) (by omega) (by omega) hiL hl (fun t => B_X11_film_90 (nI (pcs kd n w cs).length) f2 s2 v2 t.2)
        rw [eit, ejt]
        refine ⟨_, _, rfl, rfl, rfl, hC, hI, hT, fun a ha => ?_⟩
        obtain ⟨t1, t2, t3⟩ := hS a ha
        refine ⟨t1, t2, fun x hx => ?_⟩
        show it a x = jt (24 * a + x)
        rw [hit, hjt]
        by_cases hb : a = q ∧ i ≤ x ∧ x < i + (pcs kd n w cs).length
        · rw [if_pos hb, if_pos (by omega), (q1 (x - i) (by omega)).2.2, show 24 * a + x - (24 * q + i) = x - i by omega, (q2 (x - i) (by omega)).2.2]
        · rw [if_neg hb, if_neg (by omega)]; exact t3 x hx
      · rw [if_neg hz0, if_neg hz0]
        exact ⟨_, _, rfl, rfl, rfl, hC, hI, hT, hS⟩
    · rw [if_neg (show ¬ (((0 : Int32) ≤ p0 ∧ p0 ≤ 3) ∧ ((0 : Int32) ≤ p1 ∧ p1 ≤ 2)) from fun z => h1 z.2), if_pos rfl, if_pos h0, if_neg n10, if_neg h1, if_pos rfl]
      exact ⟨_, _, rfl, rfl, rfl, hC, hI, hT, hS⟩
  · rw [if_neg (show ¬ (((0 : Int32) ≤ p0 ∧ p0 ≤ 3) ∧ ((0 : Int32) ≤ p1 ∧ p1 ≤ 2)) from fun z => h0 z.1), if_pos rfl, if_neg h0, if_pos rfl]
    exact ⟨_, _, rfl, rfl, rfl, hC, hI, hT, hS⟩
