/-! late: the answers -/
theorem Fu_VA {P : Nat → Nat → Bool} {M n : Nat} {fx z : Nat → Nat} (hf : ∀ j, j < M → fx j ≤ n) : Fu P M n fx 1 0 z ↔ (VA P M n z ∧ ∀ j, j < M → (fx j = 0 ∨ z j = fx j)) := by
  constructor
  · rintro ⟨h1, h2, h3⟩
    have hz : ∀ j, j < M → 1 ≤ z j ∧ z j ≤ n := fun j hj => by
      rcases h1 j hj with ⟨a, -⟩ | ⟨-, a⟩
      · rw [Nat.zero_testBit] at a; cases a
      · exact a
    refine ⟨⟨hz, fun e e1 e2 => ?_⟩, fun j hj => ?_⟩
    · have := h2 e e1 e2
      rw [Nat.zero_or] at this
      exact this
    · rcases h3 j hj with c | c
      · exact Or.inl c
      · exact Or.inr ((c (z j) (hz j hj).1 (hz j hj).2).mp rfl).symm
  · rintro ⟨⟨h1, h2⟩, h3⟩
    refine ⟨fun j hj => Or.inr ⟨Nat.zero_testBit j, h1 j hj⟩, fun e e1 e2 => ?_, fun j hj => ?_⟩
    · rw [Nat.zero_or]; exact h2 e e1 e2
    · rcases h3 j hj with c | c
      · exact Or.inl c
      · exact Or.inr (fun e _ _ => by omega)
/-- what the reference's table answers, with some days fixed -/
theorem find_says {P : Nat → Nat → Bool} {M n : Nat} {fx : Nat → Nat} {v : Int32} (hM : M ≤ 5) (hn : n ≤ 60) (hf : ∀ j, j < M → fx j ≤ n) (hv : v.toInt = lv P M n fx n 0) {x : Nat → Nat} (hx : VA P M n x) (hmax : ∀ y, VA P M n y → sm y M ≤ sm x M) : (v = nI (sm x M)) ↔ ∃ z, VA P M n z ∧ (∀ j, j < M → (fx j = 0 ∨ z j = fx j)) ∧ sm z M = sm x M := by
  have hs := sm_le hM (VA_60 hn hx)
  have e1 : n + 1 - n = 1 := by omega
  have hiff : v = nI (sm x M) ↔ v.toInt = (sm x M : Int) := by
    rw [← Int32.toInt_inj, nI_toInt (by omega)]
  rw [hiff, hv]
  have h := lv_says (P := P) (fx := fx) hM hn n (Nat.le_refl _) 0 (Nat.two_pow_pos M)
  rw [e1] at h
  rcases h with ⟨z, z1, z2, z3⟩ | ⟨z1, z2⟩
  · have z1' := (Fu_VA hf).mp z1
    rw [z2]
    constructor
    · intro e; exact ⟨z, z1'.1, z1'.2, by omega⟩
    · rintro ⟨y, y1, y2, y3⟩
      have a := z3 y ((Fu_VA hf).mpr ⟨y1, y2⟩)
      have b := hmax z z1'.1
      omega
  · constructor
    · intro e; omega
    · rintro ⟨y, y1, y2, -⟩
      exact absurd ((Fu_VA hf).mpr ⟨y1, y2⟩) (z1 y)
/-- days that are fixed so far -/
def fxU (x : Nat → Nat) (k v : Nat) : Nat → Nat := fun j => if j < k then x j else if j = k then v else 0
theorem lateSeek {P : Nat → Nat → Bool} {M n k : Nat} {x : Nat → Nat} {paid : Nat → Int64} (hM : M ≤ 5) (hn : n ≤ 60) (hk : k < M) (hP : PdR P n (2 ^ M) paid) (hx : VA P M n x) (hb : ∀ y, VA P M n y → sc Wl y M ≤ sc Wl x M) {fixed : Nat → Int32} (h1 : ∀ j, j < k → fixed j = nI (x j)) (h2 : ∀ j, k < j → j < 5 → fixed j = 0) (lates : Nat → Int32) (kx : (Nat → Int32) × (Nat → Int32) → Option (Int32 × Int32 × (Nat → Int32) × (Nat → Int32) × (Nat → Int32) × (Nat → Int32) × (Nat → Int64) × (Nat → Int64) × (Nat → Int32) × (Nat → Int32))) : ∃ f' l', L_X11_late_263 paid (nI n) (nI M) (nI (sm x M)) (nI k) kx FUEL (upd fixed k 1, lates) = kx (f', l') ∧ (∀ j, j < k + 1 → f' j = nI (x j)) ∧ ∀ j, k < j → j < 5 → f' j = 0 := by
  have hmax := best_sum hM hn hx hb
  have hxk := hx.1 k hk
  unfold L_X11_late_263
  refine loopR _ (fun o => ∃ f' l', o = kx (f', l') ∧ (∀ j, j < k + 1 → f' j = nI (x j)) ∧ ∀ j, k < j → j < 5 → f' j = 0) (fun m a => ∃ v f l, a = (f, l) ∧ 1 ≤ v ∧ v ≤ x k ∧ m = x k - v ∧ (∀ j, j < k → f j = nI (x j)) ∧ f k = nI v ∧ ∀ j, k < j → j < 5 → f j = 0) ?_ FUEL (x k - 1) _ ⟨1, _, lates, rfl, by omega, by omega, rfl, fun j hj => by rw [pk_un (by omega)]; exact h1 j hj, pk_us, fun j j1 j2 => by rw [pk_un (by omega)]; exact h2 j j1 j2⟩ (fuel_lt (by omega))
  rintro m a ⟨v, f, l, rfl, v1, v2, rfl, a1, a2, a3⟩ rec
  have hfx : ∀ j, j < M → f j = nI (fxU x k v j) ∧ fxU x k v j < 2 ^ 20 := fun j hj => by
    unfold fxU
    have hxj := (hx.1 j hj).2
    by_cases c1 : j < k
    · rw [if_pos c1]; exact ⟨a1 j c1, by omega⟩
    · rw [if_neg c1]
      by_cases c2 : j = k
      · rw [if_pos c2, c2]; exact ⟨a2, by omega⟩
      · rw [if_neg c2]; exact ⟨a3 j (by omega) (by omega), by decide⟩
  have hfn : ∀ j, j < M → fxU x k v j ≤ n := fun j hj => by
    unfold fxU
    have hxj := (hx.1 j hj).2
    split
    · exact hxj
    · split <;> omega
  obtain ⟨u, l', eu, hu⟩ := findLate_ok (P := P) hM hn hP hfx l
  have hs := find_says hM hn hfn hu hx hmax
  have ik : inb (nI k) 5 = true := inb_nI (by omega) (by decide)
  show (∃ f' l', LB_X11_late_263 paid (nI n) (nI M) (nI (sm x M)) (nI k) kx rec f l = kx (f', l') ∧ _) ∨ ∃ m' b, _ ∧ _ ∧ LB_X11_late_263 paid (nI n) (nI M) (nI (sm x M)) (nI k) kx rec f l = rec b
  have hcode : LB_X11_late_263 paid (nI n) (nI M) (nI (sm x M)) (nI k) kx rec f l = if u = nI (sm x M) then kx (f, l') else rec (upd f k (nI (v + 1)), l') := by
    unfold LB_X11_late_263
    rw [eu, Option.bind_some, ob_t ik, ob_t ik, nI_clamp (by omega), a2, nI_1]
  by_cases c : v = x k
  · left
    have heq : u = nI (sm x M) := hs.mpr ⟨x, hx, fun j hj => by
      unfold fxU
      by_cases c1 : j < k
      · rw [if_pos c1]; exact Or.inr rfl
      · rw [if_neg c1]
        by_cases c2 : j = k
        · rw [if_pos c2, c2, c]; exact Or.inr rfl
        · rw [if_neg c2]; exact Or.inl rfl, rfl⟩
    refine ⟨f, l', hcode.trans (if_pos heq), fun j hj => ?_, a3⟩
    by_cases c1 : j = k
    · rw [c1, a2, c]
    · exact a1 j (by omega)
  · right
    have hne : ¬ u = nI (sm x M) := fun z => by
      obtain ⟨y, y1, y2, y3⟩ := hs.mp z
      refine best_first hM hn hk hx hb y1 (fun j hj => ?_) y3 ?_
      · have := y2 j (by omega)
        unfold fxU at this
        rw [if_pos hj] at this
        have hxj := (hx.1 j (by omega)).1
        omega
      · have := y2 k hk
        unfold fxU at this
        rw [if_neg (by omega), if_pos rfl] at this
        omega
    refine ⟨x k - (v + 1), (upd f k (nI (v + 1)), l'), by omega, ⟨v + 1, _, l', rfl, by omega, by omega, rfl, fun j hj => by rw [pk_un (by omega)]; exact a1 j hj, pk_us, fun j j1 j2 => by rw [pk_un (by omega)]; exact a3 j j1 j2⟩, hcode.trans (if_neg hne)⟩
theorem lateAll {P : Nat → Nat → Bool} {M n i : Nat} {x : Nat → Nat} {paid : Nat → Int64} (hM : M ≤ 5) (hn : n ≤ 60) (hi : i < M) (hP : PdR P n (2 ^ M) paid) (hx : VA P M n x) (hb : ∀ y, VA P M n y → sc Wl y M ≤ sc Wl x M) {fixed : Nat → Int32} (h0 : ∀ j, j < 5 → fixed j = 0) (lates : Nat → Int32) (kx : Int32 × (Nat → Int32) × (Nat → Int32) → Option (Int32 × Int32 × (Nat → Int32) × (Nat → Int32) × (Nat → Int32) × (Nat → Int32) × (Nat → Int64) × (Nat → Int64) × (Nat → Int32) × (Nat → Int32))) : ∃ z f' l', L_X11_late_249 paid (nI n) (nI i) (nI M) (nI (sm x M)) kx FUEL (0, fixed, lates) = kx (z, f', l') ∧ f' i = nI (x i) := by
  unfold L_X11_late_249
  obtain ⟨⟨f', l'⟩, h1, q⟩ := upK (fun rec t => LB_X11_late_249 paid (nI n) (nI i) (nI M) (nI (sm x M)) kx rec t.1 t.2.1 t.2.2) kx (i + 1) (fun k t => (∀ j, j < k → t.1 j = nI (x j)) ∧ ∀ j, k ≤ j → j < 5 → t.1 j = 0) (by omega) (fun k t hk hI rec => by
      obtain ⟨f, l⟩ := t
      obtain ⟨i1, i2⟩ := hI
      obtain ⟨f', l', e, k1, k2⟩ := lateSeek hM hn (show k < M by omega) hP hx hb (fixed := f) i1 (fun j j1 j2 => i2 j (by omega) j2) l (fun t => B_X11_late_288 kx rec t.1 t.2 (nI k))
      refine ⟨(f', l'), ⟨k1, fun j j1 j2 => k2 j (by omega) j2⟩, ?_⟩
      show LB_X11_late_249 _ _ _ _ _ _ rec (nI k) f l = _
      unfold LB_X11_late_249
      rw [if_neg (nI_nlt (by omega) (by omega)), ob_t (inb_nI (by omega) (by decide)), nI_clamp (by omega), e]
      unfold B_X11_late_288
      rw [nI_1]) (fun t _ rec => by
      show LB_X11_late_249 _ _ _ _ _ _ rec (nI (i + 1)) t.1 t.2 = _
      unfold LB_X11_late_249
      rw [if_pos (nI_lt (by omega) (by omega))]) (j := 0) (s := (fixed, lates)) (Nat.zero_le _) ⟨fun j hj => absurd hj (by omega), fun j _ hj => h0 j hj⟩
  exact ⟨_, f', l', q, h1.1 i (by omega)⟩
theorem late0 (fixed : Nat → Int32) (kx : Int32 × (Nat → Int32) → Option (Int32 × Int32 × (Nat → Int32) × (Nat → Int32) × (Nat → Int32) × (Nat → Int32) × (Nat → Int64) × (Nat → Int64) × (Nat → Int32) × (Nat → Int32))) : ∃ f', (∀ j, j < 5 → f' j = 0) ∧ L_X11_late_197 kx FUEL (0, fixed) = kx (nI 5, f') := by
  unfold L_X11_late_197
  refine upK (fun rec t => LB_X11_late_197 kx rec t.1 t.2) kx 5 (fun k f => ∀ j, j < k → f j = 0) (by decide) (fun k f hk hI rec => ⟨upd f k 0, fun j hj => ?_, ?_⟩) (fun f _ rec => ?_) (j := 0) (s := fixed) (by omega) (fun j hj => absurd hj (by omega))
  · by_cases c : j = k
    · rw [c, pk_us]
    · rw [pk_un c]; exact hI j (by omega)
  · show LB_X11_late_197 _ rec (nI k) f = _
    unfold LB_X11_late_197
    rw [if_neg (show ¬ (5 : Int32) ≤ nI k from nI_ge (b := 5) hk (by decide)), ob_t (inb_nI (by omega) (by decide)), nI_clamp (by omega), nI_1]
  · show LB_X11_late_197 _ rec (nI 5) f = _
    unfold LB_X11_late_197
    rw [if_pos (by decide)]
/-- some days of cuts are good: all on the first one -/
theorem VA_ex {kd n : Nat} {w : Nat → Nat} {cs : List Nat} {r off dbl q : Nat} (hq1 : 1 ≤ q) (h : q ≤ farF kd n w r off dbl cs) : VA (Pd kd n w r off dbl cs) cs.length q (fun _ => 1) := by
  refine ⟨fun j _ => ⟨Nat.le_refl _, hq1⟩, fun e e1 e2 => ?_⟩
  have ef : selN cs (stX (fun _ => 1) cs.length e) cs.length = cs := by
    rw [selN_full cs.length (Nat.le_refl _) _ (fun i hi => by rw [stX_bit, decide_eq_true hi, decide_eq_true ⟨Nat.le_refl 1, e1⟩]; rfl), List.take_length]
  unfold Pd
  rw [ef]
  exact runD_all 60 0 e e1 (Nat.le_trans e2 h)
theorem m1_or {p : Int32} {N : Nat} {M : Int32} (hM : M.toInt = N) (h : (-1 : Int32) ≤ p ∧ p ≤ M) : p = -1 ∨ ∃ i, i ≤ N ∧ p = nI i := by
  by_cases hneg : p < 0
  · left
    have a := Int32.le_iff_toInt_le.mp h.1
    have b := Int32.lt_iff_toInt_lt.mp hneg
    apply Int32.toInt_inj.mp
    rw [show (-1 : Int32).toInt = -1 by decide] at a ⊢
    rw [show (0 : Int32).toInt = 0 by decide] at b
    omega
  · exact Or.inr (nI_of2 hM hneg h.2)
theorem tq_late {x_hasImage : Int32} {x_chain_kind : Int32} {x_chain_links : Int32} {x_chain_cutCount : Int32} {x_best_known : Nat → Int32} {x_chain_worths : Nat → Int32} {x_chain_ahead : Nat → Int32} {x_chain_cuts : Nat → Int32} {x_tape_length : Int32} {x_tape_bytes : Nat → Int32} {x_draft_ahead : Nat → Int32} {x_pieces_count : Int32} {x_pieces_first : Nat → Int32} {x_pieces_size : Nat → Int32} {x_pieces_value : Nat → Int32} {x_days_each : Int32} {x_days_off : Int32} {x_days_twice : Int32} {x_days_dues : Nat → Int32} {x_sums_words : Int32} {x_sums_bits : Nat → Int64} {x_sets_whole : Int32} {x_sets_pieceCount : Int32} {x_sets_lookedBack : Int32} {x_sets_worths : Nat → Int32} {x_sets_ends : Nat → Int32} {x_sets_order : Nat → Int32} {x_sets_notes : Nat → Int32} {x_best_far : Nat → Int32} {x_best_rows : Nat → Nat → Int32} {x_sets_lookedAt : Nat → Int32} {x_delay_most : Int64} {x_delay_row : Nat → Int32} {x_delay_paid : Nat → Int64} {x_delay_counts : Nat → Int64} {x_imageChain_kind : Int32} {x_imageChain_links : Int32} {x_imageChain_cutCount : Int32} {x_imageChain_worths : Nat → Int32} {x_imageChain_ahead : Nat → Int32} {x_imageChain_cuts : Nat → Int32} {x_imageDays_each : Int32} {x_imageDays_off : Int32} {x_imageDays_twice : Int32} {x_imageDays_dues : Nat → Int32} {x_sheets_there : Nat → Int32} {x_sheets_lane : Nat → Int32} {x_sheets_length : Nat → Int32} {x_sheets_items : Nat → Nat → Int64} {y_isKept : Int32} {y_taped : Int32} {y_pieces : Int32} {y_w : Nat → Int32} {y_firsts : Nat → Int32} {y_sizes : Nat → Int32} {y_worths : Nat → Int32} {y_tape : Nat → Int32} {y_dues : Nat → Int32} {y_sums : Nat → Int64} {y_lates : Nat → Int32} {y_paidOn : Nat → Int64} {y_fixed : Nat → Int32} {y_lanes : Nat → Int32} {y_longs : Nat → Int32} {y_items : Nat → Int64} (hR : Rel x_chain_kind x_chain_links x_chain_cutCount x_chain_worths x_chain_ahead x_chain_cuts x_days_each x_days_off x_days_twice x_days_dues x_best_known x_best_far x_best_rows x_hasImage x_imageChain_kind x_imageChain_links x_imageChain_cutCount x_imageChain_worths x_imageChain_ahead x_imageChain_cuts x_imageDays_each x_imageDays_off x_imageDays_twice x_imageDays_dues x_tape_length x_tape_bytes x_sheets_there x_sheets_lane x_sheets_length x_sheets_items x_draft_ahead x_sets_whole x_sets_pieceCount x_sets_lookedBack x_sets_worths x_sets_lookedAt x_sets_ends x_sets_order x_sets_notes y_w y_isKept y_taped y_tape y_lanes y_longs y_items) (p0 : Int32) (p1 : Int32) : ∃ (rx : Int32 × Int32 × (Nat → Int32) × (Nat → Int32) × (Nat → Int32) × Int32 × (Nat → Int64) × Int64 × (Nat → Int32) × (Nat → Int64) × (Nat → Int64)) (ry : Int32 × Int32 × (Nat → Int32) × (Nat → Int32) × (Nat → Int32) × (Nat → Int32) × (Nat → Int64) × (Nat → Int64) × (Nat → Int32) × (Nat → Int32)), f_X10_late x_chain_kind x_chain_links x_chain_cutCount x_pieces_count x_pieces_first x_pieces_size x_pieces_value x_chain_ahead x_chain_worths x_chain_cuts x_sums_words x_sums_bits x_days_dues x_delay_most x_delay_row x_delay_paid x_delay_counts p0 p1 = some rx ∧ f_X11_late y_pieces y_dues y_w y_firsts y_sizes y_worths y_sums y_paidOn y_fixed y_lates p0 p1 = some ry ∧ rx.1 = ry.1 ∧ Rel x_chain_kind x_chain_links x_chain_cutCount x_chain_worths x_chain_ahead x_chain_cuts x_days_each x_days_off x_days_twice x_days_dues x_best_known x_best_far x_best_rows x_hasImage x_imageChain_kind x_imageChain_links x_imageChain_cutCount x_imageChain_worths x_imageChain_ahead x_imageChain_cuts x_imageDays_each x_imageDays_off x_imageDays_twice x_imageDays_dues x_tape_length x_tape_bytes x_sheets_there x_sheets_lane x_sheets_length x_sheets_items x_draft_ahead x_sets_whole x_sets_pieceCount x_sets_lookedBack x_sets_worths x_sets_lookedAt x_sets_ends x_sets_order x_sets_notes y_w y_isKept y_taped y_tape y_lanes y_longs y_items := by
  obtain ⟨kd, n, w, cs, r, off, dbl, hV, hCC, hM, hDV, hDC, hD, hB⟩ := id hR.1
  obtain ⟨g1, g2, g3, g4, g5, g6, g7⟩ := id hV
  have hN := notchN_le (kd := kd) (n := n)
  obtain ⟨f1, s1, v1, W, gb, e1, pa1⟩ := daysPaid_ok hV hCC hDV.2.1 hDC.2.2.2 x_pieces_first x_pieces_size x_pieces_value x_sums_bits
  obtain ⟨rd, er, hrd⟩ := layDues_ok hDV hD y_dues
  obtain ⟨f2, s2, v2, g2', e2, pa2⟩ := farM hV hDV.2.1 hM.1 hM.2.1 (M_ew hM) hrd y_firsts y_sizes y_worths y_sums
  have hfar := farF_le kd n w r off dbl cs
  unfold f_X10_late f_X11_late B_X10_late_19 B_X11_late_26
  rw [within_ok, within_ok, in_lit p0 1 60 (by decide) (by decide), in_lit p1 (-1) 4 (by decide) (by decide), e1, er]
  simp only [Option.bind_some]
  by_cases h1 : (1 : Int32) ≤ p0 ∧ p0 ≤ 60
  · rw [if_pos h1, if_neg n10, if_neg n10]
    obtain ⟨q, hq, rfl⟩ := nat_of (N := 60) (M := 60) (by decide) ⟨Int32.le_trans (by decide) h1.1, h1.2⟩
    have hq1 : 1 ≤ q := Nat.le_of_not_lt (fun z => nI_ge (b := 1) z (by decide) h1.1)
    by_cases h2 : (-1 : Int32) ≤ p1 ∧ p1 ≤ 4
    · rw [if_pos h2, if_neg n10, if_neg n10]
      have i26 : inb (26 : Int32) 60 = true := by decide
      have e26 : y_w (26 : Int32).toNatClampNeg = nI (mask cs) := hM.2.2.2
      rw [ob_t i26, e26, e2]
      simp only [Option.bind_some]
      rw [ob_t i26, ones_ok g6 (fun c hc => by have := g7 c hc; omega)]
      simp only [Option.bind_some]
      by_cases h3 : q ≤ farF kd n w r off dbl cs
      · rw [if_pos (nI_le h3 (by omega)), if_pos (nI_le h3 (by omega))]
        obtain ⟨zr, pn2, f3, s3, v3, su3, paid3, er2, hPr⟩ := lateM_paid hV hM hDV.2.1 hrd hq (fun t => B_X11_late_194 t.2.1 rd t.2.2.1 t.2.2.2.1 t.2.2.2.2.1 t.2.2.2.2.2.1 t.2.2.2.2.2.2 y_fixed y_lates (nI q) p1 (nI cs.length)) (nI (pcs kd n w cs).length) f2 s2 v2 g2' y_paidOn
        rw [er2]
        dsimp only
        unfold B_X11_late_194
        obtain ⟨fx0, hfx0, e197⟩ := late0 y_fixed (fun t => B_X11_late_217 pn2 rd f3 s3 v3 su3 paid3 t.2 y_lates (nI q) p1 (nI cs.length))
        rw [e197]
        dsimp only
        unfold B_X11_late_217
        obtain ⟨u, l0, eu, hu⟩ := findLate_ok (P := Pd kd n w r off dbl cs) (fx := fun _ => 0) (fixed := fx0) g5 hq hPr (fun i hi => ⟨hfx0 i (by omega), by decide⟩) y_lates
        have hR' := hR
        rw [hCC.2.2.1] at hR'
        rw [eu, hCC.2.2.1]
        simp only [Option.bind_some]
        obtain ⟨zc, pn1, f4, s4, v4, W4, bi4, row4, paid4, ec2, hPc⟩ := lateC_paid hV hCC hDV.2.1 hDC.2.2.2 (fun t => B_X10_late_135 (nI cs.length) t.2.1 t.2.2.1 t.2.2.2.1 t.2.2.2.2.1 t.2.2.2.2.2.1 t.2.2.2.2.2.2.1 t.2.2.2.2.2.2.2.1 t.2.2.2.2.2.2.2.2 x_delay_counts (nI q) p1) (nI (pcs kd n w cs).length) f1 s1 v1 (nI W) gb x_delay_row x_delay_paid
        rw [hCC.2.2.1] at ec2
        obtain ⟨most, cnt, em, hmx⟩ := reckonL_ok (Wt := Wl) g5 hq (fun j _ => Wl_le j) (fun j hj => dig_Wl (by omega)) hPc x_delay_counts
        have hxx : ∃ x, VA (Pd kd n w r off dbl cs) cs.length q x ∧ most = lN (sc Wl x cs.length) ∧ ∀ y, VA (Pd kd n w r off dbl cs) cs.length q y → sc Wl y cs.length ≤ sc Wl x cs.length := by
          rcases hmx with ⟨-, z⟩ | z
          · exact absurd (VA_ex hq1 h3) (z _)
          · exact z
        obtain ⟨x, hx, rfl, hbx⟩ := hxx
        have hmax := best_sum g5 hq hx hbx
        have heq : u = nI (sm x cs.length) := (find_says g5 hq (fun j _ => Nat.zero_le _) hu hx hmax).mpr ⟨x, hx, fun j _ => Or.inl rfl, rfl⟩
        subst heq
        rcases m1_or (N := 4) (M := 4) (by decide) h2 with rfl | ⟨i, hi, rfl⟩
        · rw [if_pos (show (-1 : Int32) < 0 by decide), if_pos (show (-1 : Int32) < nI cs.length from Int32.lt_of_lt_of_le (show (-1 : Int32) < 0 by decide) (nI_pos' (by omega))), ec2]
          dsimp only
          unfold B_X10_late_135 B_X11_late_234 B_X11_late_245 B_X10_late_172
          rw [em, Option.bind_some]
          dsimp only
          rw [if_neg (show ¬ (0 : Int32) ≤ -1 by decide), if_neg (show ¬ (0 : Int32) ≤ -1 by decide), together_ok g5 (VA_60 hq hx), Option.bind_some]
          exact ⟨_, _, rfl, rfl, rfl, hR'⟩
        · rw [if_neg (nI_pos (by omega))]
          by_cases c : i < cs.length
          · obtain ⟨z, f', l', ea, hfi⟩ := lateAll g5 hq c hPr hx hbx hfx0 l0 (fun t => B_X11_late_294 pn2 rd f3 s3 v3 su3 paid3 t.2.1 t.2.2 (nI i))
            rw [if_pos (nI_lt c (by omega)), if_pos (nI_lt c (by omega)), ec2, ea]
            dsimp only
            unfold B_X10_late_135 B_X11_late_294 B_X10_late_172
            rw [em, Option.bind_some]
            dsimp only
            rw [if_pos (nI_pos' (by omega)), dayOf_ok g5 c (VA_60 hq hx), Option.bind_some, ob_t (inb_nI (by omega) (by decide)), nI_clamp (by omega), hfi]
            exact ⟨_, _, rfl, rfl, rfl, hR'⟩
          · rw [if_neg (nI_nlt (by omega) (by omega)), if_neg (nI_nlt (by omega) (by omega))]
            unfold B_X11_late_234 B_X11_late_245
            rw [if_pos (nI_pos' (by omega))]
            exact ⟨_, _, rfl, rfl, rfl, hR'⟩
      · rw [if_neg (nI_ge (by omega) (by omega)), if_neg (nI_ge (by omega) (by omega))]
        exact ⟨_, _, rfl, rfl, rfl, hR⟩
    · rw [if_neg h2, if_pos rfl, if_pos rfl]
      exact ⟨_, _, rfl, rfl, rfl, hR⟩
  · rw [if_neg h1, if_pos rfl, if_pos rfl]
    exact ⟨_, _, rfl, rfl, rfl, hR⟩
