/-! cut, mend, notch -/
theorem notchN_le {kd n : Nat} : notchN kd n ≤ n := by
  unfold notchN; split <;> omega
theorem notches_ok {kd n : Nat} (hk : kd ≤ 3) (h1 : 1 ≤ n) (h2 : n ≤ 24) : f_X1_notches (nI kd) (nI n) = some (nI (notchN kd n)) := by
  unfold f_X1_notches f_X1_losesLinks B_X1_losesLinks_15 B_X1_losesLinks_20 B_X1_notches_20 notchN
  rw [ob_t zb1, ob_t zb0]
  simp (disch := omega) only [lit, nI_add, pk_mul, nI_subT, nI_m1T, nI_clamp, nI_ltI, nI_leI, nI_eq, inb_T, ob_tt, Option.bind_some, ↓reduceIte, shl1_n, shr_n', and_n, or_n, xor_n, n31, dvd_n, pk_us, pk_un, gt_iff_lt, ge_iff_le, m1lt, m1ge]
  by_cases h : kd < 2
  · by_cases h0 : kd = 0
    · rw [if_pos h0, if_pos h]; simp (disch := omega) only [lit, nI_add, pk_mul, nI_subT, nI_m1T, nI_clamp, nI_ltI, nI_leI, nI_eq, inb_T, ob_tt, Option.bind_some, ↓reduceIte, shl1_n, shr_n', and_n, or_n, xor_n, n31, dvd_n, pk_us, pk_un, gt_iff_lt, ge_iff_le, m1lt, m1ge]; rfl
    · rw [if_neg h0, if_pos (show kd = 1 by omega), if_pos h]; simp (disch := omega) only [lit, nI_add, pk_mul, nI_subT, nI_m1T, nI_clamp, nI_ltI, nI_leI, nI_eq, inb_T, ob_tt, Option.bind_some, ↓reduceIte, shl1_n, shr_n', and_n, or_n, xor_n, n31, dvd_n, pk_us, pk_un, gt_iff_lt, ge_iff_le, m1lt, m1ge]; rfl
  · rw [if_neg (by omega), if_neg (by omega), if_neg h]; simp (disch := omega) only [lit, nI_add, pk_mul, nI_subT, nI_m1T, nI_clamp, nI_ltI, nI_leI, nI_eq, inb_T, ob_tt, Option.bind_some, ↓reduceIte, shl1_n, shr_n', and_n, or_n, xor_n, n31, dvd_n, pk_us, pk_un, gt_iff_lt, ge_iff_le, m1lt, m1ge]
theorem notchesM_ok {kd n : Nat} (hk : kd ≤ 3) (h1 : 1 ≤ n) (h2 : n ≤ 24) {mw : Nat → Int32} (e0 : mw 0 = nI kd) (e1 : mw 1 = nI n) : f_X11_notches mw = some (nI (notchN kd n)) := by
  unfold f_X11_notches B_X11_notches_21 notchN
  simp (disch := omega) only [lit, nI_add, pk_mul, nI_subT, nI_m1T, nI_clamp, nI_ltI, nI_leI, nI_eq, inb_T, ob_tt, Option.bind_some, ↓reduceIte, shl1_n, shr_n', and_n, or_n, xor_n, n31, dvd_n, pk_us, pk_un, gt_iff_lt, ge_iff_le, m1lt, m1ge, e0, e1]
  by_cases h : kd < 2
  · rw [if_pos h, if_pos h]; rfl
  · rw [if_neg h, if_neg h]
theorem notch_ok {kd n : Nat} (hk : kd ≤ 3) (h1 : 1 ≤ n) (h2 : n ≤ 24) {mw : Nat → Int32} (e0 : mw 0 = nI kd) (e1 : mw 1 = nI n) (p : Int32) : ∃ z : Int32, f_X1_hasNotch (nI kd) (nI n) p = some z ∧ f_X11_isNotch mw p = some z ∧ (z = 0 ∨ (z = 1 ∧ ∃ c, c < notchN kd n ∧ p = nI c)) := by
  unfold f_X1_hasNotch f_X11_isNotch B_X1_hasNotch_16 B_X1_hasNotch_17
  rw [notches_ok hk h1 h2, notchesM_ok hk h1 h2 e0 e1, ob_t zb0, ob_t zb1]
  simp only [Option.bind_some]
  have hN := notchN_le (kd := kd) (n := n)
  rw [show (0 : Int64) = (0 : Int32).toInt64 from rfl, in_int]
  simp only [Option.bind_some]
  rcases pk_ix p (show notchN kd n < 2 ^ 31 by omega) with h | h | ⟨j, hj, rfl⟩
  · rw [if_pos h, if_neg (fun z => absurd h (Int32.not_lt.mpr z.1))]
    exact ⟨0, rfl, ob_t zb0 _, Or.inl rfl⟩
  · have hp0 : ¬ p < 0 := Int32.not_lt.mpr (Int32.le_trans (nI_pos' (by omega)) h)
    rw [if_neg hp0, if_pos h, if_neg]
    · exact ⟨0, rfl, ob_t zb0 _, Or.inl rfl⟩
    · rintro ⟨-, z⟩
      obtain ⟨q, hq, rfl⟩ := nI_of hp0
      have hq2 := (nI_leI (by omega) hq).mp h
      by_cases h0 : notchN kd n = 0
      · rw [h0] at z
        exact absurd (Int32.le_trans (nI_pos' hq) z) (by decide)
      · rw [lit, nI_subT (by omega)] at z
        have := (nI_leI hq (by omega)).mp z
        omega
  · rw [if_neg (nI_pos (by omega)), if_neg (nI_ge hj (by omega)), if_pos]
    · exact ⟨1, rfl, ob_t zb1 _, Or.inr ⟨rfl, j, hj, rfl⟩⟩
    · refine ⟨nI_pos' (by omega), ?_⟩
      rw [lit, nI_subT (by omega)]
      exact nI_le (by omega) (by omega)
theorem placeOf_ok {cs : List Nat} {cuts : Nat → Int32} {c : Nat} (h5 : cs.length ≤ 5) (hb : ∀ x ∈ cs, x < 24) (hc : c < 2 ^ 31) (e : ∀ i, i < cs.length → cuts i = nI (cs.getD i 0)) : ∃ z : Int32, f_X1_placeOf (nI cs.length) cuts (nI c) = some z ∧ ((c ∉ cs ∧ z = -1) ∨ ∃ i, i < cs.length ∧ cs.getD i 0 = c ∧ z = nI i) := by
  unfold f_X1_placeOf L_X1_placeOf_2
  refine upQ0 _ (fun o => ∃ z : Int32, o = some z ∧ ((c ∉ cs ∧ z = -1) ∨ ∃ i, i < cs.length ∧ cs.getD i 0 = c ∧ z = nI i)) cs.length (fun j => ∀ i, i < j → cs.getD i 0 ≠ c) (by omega) ?_ ?_ (j := 0) (by omega) (fun i hi => absurd hi (by omega))
  · intro j hj hI
    have hx := hb _ (gD_mem hj)
    by_cases hc2 : cs.getD j 0 = c
    · refine Or.inl (fun rec => ⟨nI j, ?_, Or.inr ⟨j, hj, hc2, rfl⟩⟩)
      show LB_X1_placeOf_2 _ _ _ _ rec (nI j) = _
      unfold LB_X1_placeOf_2
      simp (disch := omega) only [lit, nI_add, pk_mul, nI_subT, nI_m1T, nI_clamp, nI_ltI, nI_leI, nI_eq, inb_T, ob_tt, Option.bind_some, ↓reduceIte, shl1_n, shr_n', and_n, or_n, xor_n, n31, dvd_n, pk_us, pk_un, gt_iff_lt, ge_iff_le, m1lt, m1ge, e j hj]
      rw [if_neg (by omega), if_pos hc2]
    · refine Or.inr ⟨fun i hi => ?_, fun rec => ?_⟩
      · by_cases hij : i = j
        · rw [hij]; exact hc2
        · exact hI i (by omega)
      · show LB_X1_placeOf_2 _ _ _ _ rec (nI j) = _
        unfold LB_X1_placeOf_2
        simp (disch := omega) only [lit, nI_add, pk_mul, nI_subT, nI_m1T, nI_clamp, nI_ltI, nI_leI, nI_eq, inb_T, ob_tt, Option.bind_some, ↓reduceIte, shl1_n, shr_n', and_n, or_n, xor_n, n31, dvd_n, pk_us, pk_un, gt_iff_lt, ge_iff_le, m1lt, m1ge, e j hj]
        rw [if_neg (by omega), if_neg hc2]
  · intro hI rec
    refine ⟨-1, ?_, Or.inl ⟨fun z => ?_, rfl⟩⟩
    · show LB_X1_placeOf_2 _ _ _ _ rec (nI cs.length) = _
      unfold LB_X1_placeOf_2
      rw [if_pos (nI_le (Nat.le_refl _) (by omega))]
      rfl
    · obtain ⟨i, hi, ei⟩ := mem_gD z
      exact hI i hi ei
/-- c put in at place p -/
def insAt (cs : List Nat) (p c : Nat) : List Nat := cs.take p ++ c :: cs.drop p
theorem insAt_len {cs : List Nat} {p c : Nat} (h : p ≤ cs.length) : (insAt cs p c).length = cs.length + 1 := by
  unfold insAt
  simp only [List.length_append, List.length_take, List.length_cons, List.length_drop]
  omega
theorem insAt_get {cs : List Nat} {p c : Nat} (h : p ≤ cs.length) (i : Nat) : (insAt cs p c).getD i 0 = if i < p then cs.getD i 0 else if i = p then c else cs.getD (i - 1) 0 := by
  unfold insAt
  rw [List.getD_eq_getElem?_getD, List.getElem?_append, List.length_take, Nat.min_eq_left h]
  by_cases h1 : i < p
  · rw [if_pos h1, if_pos h1, List.getElem?_take, if_pos h1, List.getD_eq_getElem?_getD]
  · rw [if_neg h1, if_neg h1]
    by_cases h2 : i = p
    · rw [if_pos h2, h2, Nat.sub_self]; rfl
    · rw [if_neg h2, List.getD_eq_getElem?_getD, show i - p = (i - p - 1) + 1 by omega, List.getElem?_cons_succ, List.getElem?_drop]
      rw [show p + (i - p - 1) = i - 1 by omega]
theorem insAt_mem {cs : List Nat} {p c x : Nat} : x ∈ insAt cs p c ↔ x = c ∨ x ∈ cs := by
  unfold insAt
  have : x ∈ cs ↔ x ∈ cs.take p ∨ x ∈ cs.drop p := by
    rw [← List.mem_append, List.take_append_drop]
  rw [this, List.mem_append, List.mem_cons]
  constructor
  · rintro (h | h | h)
    · exact Or.inr (Or.inl h)
    · exact Or.inl h
    · exact Or.inr (Or.inr h)
  · rintro (h | h | h)
    · exact Or.inr (Or.inl h)
    · exact Or.inl h
    · exact Or.inr (Or.inr h)
theorem insAt_srt {cs : List Nat} {p c : Nat} (hs : cs.Pairwise (· < ·)) (h : p ≤ cs.length) (h1 : ∀ i, i < p → cs.getD i 0 < c) (h2 : ∀ i, p ≤ i → i < cs.length → c < cs.getD i 0) : (insAt cs p c).Pairwise (· < ·) := by
  rw [srt_iff] at hs ⊢
  intro i j hij hj
  rw [insAt_len h] at hj
  rw [insAt_get h, insAt_get h]
  by_cases a1 : i < p
  · rw [if_pos a1]
    by_cases a2 : j < p
    · rw [if_pos a2]; exact hs i j hij (by omega)
    · rw [if_neg a2]
      by_cases a3 : j = p
      · rw [if_pos a3]; exact h1 i a1
      · rw [if_neg a3]; exact hs i (j - 1) (by omega) (by omega)
  · rw [if_neg a1, if_neg (show ¬ j < p by omega), if_neg (show ¬ j = p by omega)]
    by_cases a3 : i = p
    · rw [if_pos a3]; exact h2 (j - 1) (by omega) (by omega)
    · rw [if_neg a3]; exact hs (i - 1) (j - 1) (by omega) (by omega)
theorem open_ok {cs : List Nat} {cuts : Nat → Int32} {c : Nat} (hs : cs.Pairwise (· < ·)) (h5 : cs.length < 5) (hb : ∀ x ∈ cs, x < 24) (hc : c < 24) (hn : c ∉ cs) (e : ∀ i, i < cs.length → cuts i = nI (cs.getD i 0)) : ∃ (p : Nat) (f : Nat → Int32), p ≤ cs.length ∧ f_X1_open (nI cs.length) cuts (nI c) = some (nI (cs.length + 1), f) ∧ (insAt cs p c).Pairwise (· < ·) ∧ ∀ i, i < cs.length + 1 → f i = nI ((insAt cs p c).getD i 0) := by
  unfold f_X1_open L_X1_open_12 B_X1_open_48
  have hsi := srt_iff.mp hs
  refine loopQ _ (fun o => ∃ (p : Nat) (f : Nat → Int32), p ≤ cs.length ∧ o = some (nI (cs.length + 1), f) ∧ (insAt cs p c).Pairwise (· < ·) ∧ ∀ i, i < cs.length + 1 → f i = nI ((insAt cs p c).getD i 0)) (fun m a => ∃ (p : Nat) (f : Nat → Int32), a = (nI p, nI p - 1, f) ∧ p ≤ cs.length ∧ m = p ∧ (∀ i, i < p → f i = nI (cs.getD i 0)) ∧ (∀ i, p < i → i ≤ cs.length → f i = nI (cs.getD (i - 1) 0)) ∧ ∀ i, p ≤ i → i < cs.length → c < cs.getD i 0) ?_ FUEL cs.length _ ⟨cs.length, cuts, rfl, Nat.le_refl _, rfl, e, fun i h1 h2 => absurd h1 (by omega), fun i h1 h2 => absurd h1 (by omega)⟩ (fuel_lt (by omega))
  rintro m a ⟨p, f, rfl, hp, rfl, h1, h2, h3⟩
  have fin : (∀ i, i < m → cs.getD i 0 < c) → ∃ (p : Nat) (g : Nat → Int32), p ≤ cs.length ∧ (ob (inb (nI m) 5) (some ((nI cs.length + (1 : Int32)), (upd f (nI m).toNatClampNeg (nI c))))) = some (nI (cs.length + 1), g) ∧ (insAt cs p c).Pairwise (· < ·) ∧ ∀ i, i < cs.length + 1 → g i = nI ((insAt cs p c).getD i 0) := by
    intro h4
    refine ⟨m, upd f m (nI c), hp, ?_, insAt_srt hs hp h4 h3, fun i hi => ?_⟩
    · simp (disch := omega) only [lit, nI_add, pk_mul, nI_subT, nI_m1T, nI_clamp, nI_ltI, nI_leI, nI_eq, inb_T, ob_tt, Option.bind_some, ↓reduceIte, shl1_n, shr_n', and_n, or_n, xor_n, n31, dvd_n, pk_us, pk_un, gt_iff_lt, ge_iff_le, m1lt, m1ge]
    · rw [insAt_get hp]
      by_cases a1 : i < m
      · rw [if_pos a1, pk_un (by omega)]; exact h1 i a1
      · rw [if_neg a1]
        by_cases a2 : i = m
        · rw [if_pos a2, a2, pk_us]
        · rw [if_neg a2, pk_un a2]; exact h2 i (by omega) (by omega)
  cases m with
  | zero =>
    refine Or.inl (fun rec => ?_)
    show ∃ p g, _ ∧ LB_X1_open_12 _ _ rec (nI 0) (nI 0 - 1) f = _ ∧ _
    unfold LB_X1_open_12
    rw [if_pos (show nI 0 - (1 : Int32) < 0 by decide)]
    exact fin (fun i hi => absurd hi (by omega))
  | succ p =>
    have ep : nI (p + 1) - (1 : Int32) = nI p := nI_pred p
    have hx := hb _ (gD_mem (show p < cs.length by omega))
    by_cases hcp : cs.getD p 0 ≤ c
    · refine Or.inl (fun rec => ?_)
      show ∃ q g, _ ∧ LB_X1_open_12 _ _ rec (nI (p + 1)) (nI (p + 1) - 1) f = _ ∧ _
      unfold LB_X1_open_12
      rw [ep, if_neg (nI_pos (by omega)), ob_t (inb_nI (by omega) (by decide)), nI_clamp (by omega), h1 p (by omega), if_pos (nI_le hcp (by omega))]
      refine fin (fun i hi => ?_)
      have hlt : cs.getD p 0 < c := by
        rcases Nat.lt_or_eq_of_le hcp with z | z
        · exact z
        · exact absurd (z ▸ gD_mem (show p < cs.length by omega)) hn
      by_cases hip : i = p
      · rw [hip]; exact hlt
      · have := hsi i p (by omega) (by omega); omega
    · refine Or.inr ⟨p, (nI p, nI p - 1, upd f (p + 1) (nI (cs.getD p 0))), by omega, ⟨p, _, rfl, by omega, rfl, fun i hi => ?_, fun i a1 a2 => ?_, fun i a1 a2 => ?_⟩, fun rec => ?_⟩
      · rw [pk_un (by omega)]; exact h1 i (by omega)
      · by_cases a3 : i = p + 1
        · rw [a3, pk_us]; rfl
        · rw [pk_un a3]; exact h2 i (by omega) a2
      · by_cases a3 : i = p
        · rw [a3]; omega
        · exact h3 i (by omega) a2
      · show LB_X1_open_12 _ _ rec (nI (p + 1)) (nI (p + 1) - 1) f = _
        unfold LB_X1_open_12
        rw [ep, if_neg (nI_pos (by omega)), ob_t (inb_nI (by omega) (by decide)), nI_clamp (by omega), h1 p (by omega), if_neg (nI_ge (by omega) (by omega)), ob_t (inb_nI (by omega) (by decide)), nI_1, ob_t (inb_nI (by omega) (by decide)), nI_clamp (by omega), Int32.sub_eq_add_neg]
theorem er_get {cs : List Nat} (i j : Nat) : (cs.eraseIdx i).getD j 0 = if j < i then cs.getD j 0 else cs.getD (j + 1) 0 := by
  rw [List.getD_eq_getElem?_getD, List.getElem?_eraseIdx]
  split <;> rw [List.getD_eq_getElem?_getD]
theorem er_srt {cs : List Nat} (hs : cs.Pairwise (· < ·)) (i : Nat) : (cs.eraseIdx i).Pairwise (· < ·) := hs.sublist (List.eraseIdx_sublist cs i)
theorem er_mem {cs : List Nat} (hs : cs.Pairwise (· < ·)) {i : Nat} (hi : i < cs.length) (x : Nat) : x ∈ cs.eraseIdx i ↔ x ∈ cs ∧ x ≠ cs.getD i 0 := by
  have hl : (cs.eraseIdx i).length = cs.length - 1 := List.length_eraseIdx_of_lt hi
  have hsi := srt_iff.mp hs
  constructor
  · intro h
    obtain ⟨j, hj, rfl⟩ := mem_gD h
    rw [er_get]
    by_cases a : j < i
    · rw [if_pos a]
      exact ⟨gD_mem (by omega), by have := hsi j i a hi; omega⟩
    · rw [if_neg a]
      exact ⟨gD_mem (by omega), by have := hsi i (j + 1) (by omega) (by omega); omega⟩
  · rintro ⟨h1, h2⟩
    obtain ⟨j, hj, rfl⟩ := mem_gD h1
    have hji : j ≠ i := fun z => h2 (by rw [z])
    by_cases a : j < i
    · have : cs.getD j 0 = (cs.eraseIdx i).getD j 0 := by rw [er_get, if_pos a]
      rw [this]; exact gD_mem (by omega)
    · have : cs.getD j 0 = (cs.eraseIdx i).getD (j - 1) 0 := by rw [er_get, if_neg (by omega), show j - 1 + 1 = j by omega]
      rw [this]; exact gD_mem (by omega)
theorem close_ok {cs : List Nat} {cuts : Nat → Int32} {i : Nat} (h5 : cs.length ≤ 5) (hi : i < cs.length) (e : ∀ i, i < cs.length → cuts i = nI (cs.getD i 0)) : ∃ f : Nat → Int32, f_X1_close (nI cs.length) cuts (nI i) = some (nI (cs.length - 1), f) ∧ ∀ j, j < cs.length - 1 → f j = nI ((cs.eraseIdx i).getD j 0) := by
  unfold f_X1_close L_X1_close_2 B_X1_close_32
  refine upQ _ (fun o => ∃ f : Nat → Int32, o = some (nI (cs.length - 1), f) ∧ ∀ j, j < cs.length - 1 → f j = nI ((cs.eraseIdx i).getD j 0)) (cs.length - 1) (fun j f => i ≤ j ∧ (∀ t, t < j → f t = nI ((cs.eraseIdx i).getD t 0)) ∧ ∀ t, j ≤ t → t < cs.length → f t = nI (cs.getD t 0)) (by omega) ?_ ?_ (by omega) ⟨Nat.le_refl _, fun t ht => by rw [er_get, if_pos ht]; exact e t (by omega), fun t _ h2 => e t h2⟩
  · rintro j f hj ⟨h0, h1, h2⟩
    refine Or.inr ⟨upd f j (nI (cs.getD (j + 1) 0)), ⟨by omega, fun t ht => ?_, fun t h3 h4 => ?_⟩, fun rec => ?_⟩
    · by_cases a : t = j
      · rw [a, pk_us, er_get, if_neg (by omega)]
      · rw [pk_un a]; exact h1 t (by omega)
    · rw [pk_un (by omega)]; exact h2 t (by omega) h4
    · show LB_X1_close_2 _ _ rec (nI j) f = _
      unfold LB_X1_close_2
      simp (disch := omega) only [lit, nI_add, pk_mul, nI_subT, nI_m1T, nI_clamp, nI_ltI, nI_leI, nI_eq, inb_T, ob_tt, Option.bind_some, ↓reduceIte, shl1_n, shr_n', and_n, or_n, xor_n, n31, dvd_n, pk_us, pk_un, gt_iff_lt, ge_iff_le, m1lt, m1ge, h2 (j + 1) (by omega) (by omega)]
      rw [if_neg (by omega)]
  · rintro f ⟨h0, h1, h2⟩ rec
    refine ⟨f, ?_, h1⟩
    show LB_X1_close_2 _ _ rec (nI (cs.length - 1)) f = _
    unfold LB_X1_close_2
    simp (disch := omega) only [lit, nI_add, pk_mul, nI_subT, nI_m1T, nI_clamp, nI_ltI, nI_leI, nI_eq, inb_T, ob_tt, Option.bind_some, ↓reduceIte, shl1_n, shr_n', and_n, or_n, xor_n, n31, dvd_n, pk_us, pk_un, gt_iff_lt, ge_iff_le, m1lt, m1ge]
    rw [if_pos (by omega)]
theorem shl31 {c : Nat} (h : c < 31) : (1 : Int32) <<< (nI c &&& 31) = nI (2 ^ c) := by
  simp (disch := omega) only [lit, nI_add, pk_mul, nI_subT, nI_m1T, nI_clamp, nI_ltI, nI_leI, nI_eq, inb_T, ob_tt, Option.bind_some, ↓reduceIte, shl1_n, shr_n', and_n, or_n, xor_n, n31, dvd_n, pk_us, pk_un, gt_iff_lt, ge_iff_le, m1lt, m1ge]
theorem hasM {cs : List Nat} (hs : cs.Pairwise (· < ·)) (hb : ∀ x ∈ cs, x < 31) {c : Nat} (hc : c < 32) : f_X11_has (nI (mask cs)) (nI c) = some (if c ∈ cs then 1 else 0) := by
  rw [has_ok (mask_lt hs hb) hc, mask_bit cs hs]
  by_cases h : c ∈ cs
  · rw [if_pos h, if_pos (decide_eq_true h)]
  · rw [if_neg h, if_neg (by rw [decide_eq_false h]; exact Bool.false_ne_true)]
theorem M_cut {kd n : Nat} {w : Nat → Nat} {cs : List Nat} {r off dbl : Nat} {mw : Nat → Int32} (hn : n ≤ 24) (hM : ChM kd n w cs 0 mw) (hD : DaM r off dbl 0 mw) (ds : List Nat) : ChM kd n w ds 0 (upd mw 26 (nI (mask ds))) ∧ DaM r off dbl 0 (upd mw 26 (nI (mask ds))) ∧ ∀ x, 30 ≤ x → upd mw 26 (nI (mask ds)) x = mw x := by
  obtain ⟨m1, m2, m3, m4⟩ := hM
  obtain ⟨d1, d2, d3⟩ := hD
  exact ⟨⟨by rw [pk_un (by decide)]; exact m1, by rw [pk_un (by decide)]; exact m2, fun i hi => by rw [pk_un (by omega)]; exact m3 i hi, pk_us⟩, ⟨by rw [pk_un (by decide)]; exact d1, by rw [pk_un (by decide)]; exact d2, by rw [pk_un (by decide)]; exact d3⟩, fun x hx => by rw [pk_un (by omega)]⟩
theorem c_cut {kind links cutCount : Int32} {worths ahead cuts : Nat → Int32} {each offc twice : Int32} {dues known far : Nat → Int32} {rows : Nat → Nat → Int32} {mw : Nat → Int32} (hC : RelC kind links cutCount worths ahead cuts each offc twice dues known far rows mw) (p0 : Int32) : ∃ (rx : Int32 × Int32 × (Nat → Int32)) (ry : Int32 × (Nat → Int32)), f_X10_cut kind links cutCount cuts p0 = some rx ∧ f_X11_cut mw p0 = some ry ∧ rx.1 = ry.1 ∧ RelC kind links rx.2.1 worths ahead rx.2.2 each offc twice dues known far rows ry.2 ∧ ∀ x, 30 ≤ x → ry.2 x = mw x := by
  have keep : ∀ v : Int32, ∃ (rx : Int32 × Int32 × (Nat → Int32)) (ry : Int32 × (Nat → Int32)), some (v, cutCount, cuts) = some rx ∧ some (v, mw) = some ry ∧ rx.1 = ry.1 ∧ RelC kind links rx.2.1 worths ahead rx.2.2 each offc twice dues known far rows ry.2 ∧ ∀ x, 30 ≤ x → ry.2 x = mw x := fun v => ⟨_, _, rfl, rfl, rfl, hC, fun _ _ => rfl⟩
  obtain ⟨kd, n, w, cs, r, off, dbl, hV, hCC, hM, hDV, hDC, hD, hB⟩ := hC
  obtain ⟨m1, m2, m3, m4⟩ := id hM
  obtain ⟨g1, g2, g3, g4, g5, g6, g7⟩ := hV
  obtain ⟨c1, c2, c3, c4, c5, c6⟩ := hCC
  have hN := notchN_le (kd := kd) (n := n)
  have hb : ∀ x ∈ cs, x < 24 := fun x hx => by have := g7 x hx; omega
  have hb31 : ∀ x ∈ cs, x < 31 := fun x hx => by have := hb x hx; omega
  have hml : mask cs < 2 ^ 31 := mask_lt g6 hb31
  unfold f_X10_cut f_X11_cut
  obtain ⟨z, ez1, ez2, hz⟩ := notch_ok g1 g2 g3 m1 m2 p0
  rw [c1, c2, ez1, ez2]
  simp only [Option.bind_some]
  have e26 : mw (26 : Int32).toNatClampNeg = nI (mask cs) := m4
  rcases hz with rfl | ⟨rfl, c, hc, rfl⟩
  · rw [if_pos rfl, if_pos rfl, ← c1, ← c2]; exact keep _
  · rw [if_neg n10, if_neg n10, ob_t (by decide), e26, hasM g6 hb31 (by omega)]
    obtain ⟨z, ez, hz⟩ := placeOf_ok g5 hb (show c < 2 ^ 31 by omega) c6
    rw [c3, ez]
    simp only [Option.bind_some]
    rcases hz with ⟨hn, rfl⟩ | ⟨i, hi, ei, rfl⟩
    · rw [if_pos (show (-1 : Int32) < 0 by decide), if_neg hn, if_pos rfl, ob_t (by decide), ones_ok g6 hb31]
      simp only [Option.bind_some]
      by_cases h5 : cs.length = 5
      · rw [h5, if_neg (by decide), if_pos (by decide), ← show cutCount = nI 5 by rw [c3, h5], ← c1, ← c2]; exact keep _
      · rw [if_pos (show nI cs.length < (5 : Int32) from nI_lt (b := 5) (by omega) (by decide)), if_neg (show ¬ nI cs.length = (5 : Int32) from fun z => h5 ((nI_eq (b := 5) (by omega) (by decide)).mp z)), ob_t (by decide), ob_t (by decide), ob_t (by decide)]
        obtain ⟨p, f, hp, ef, hs, hf⟩ := open_ok g6 (by omega) hb (by omega) hn c6
        have eor : mask cs ||| 2 ^ c = mask (insAt cs p c) := mask_ext (ds := []) hs (fun k => by
          rw [Nat.testBit_or, mask_bit cs g6, Nat.testBit_two_pow, ← Bool.decide_or]
          exact decide_eq_decide.mpr (by rw [insAt_mem]; constructor <;> (rintro (a | a) <;> simp [a])))
        have hlen := insAt_len (c := c) hp
        have hmem : ∀ x ∈ insAt cs p c, x < notchN kd n := fun x hx => by
          rcases insAt_mem.mp hx with rfl | h
          · exact hc
          · exact g7 x h
        rw [ef, shl31 (by omega), or_n, eor, show (26 : Int32).toNatClampNeg = 26 from rfl, pk_us, ones_ok hs (fun x hx => by have := hmem x hx; omega), hlen]
        have hMC := M_cut g3 hM hD (insAt cs p c)
        exact ⟨_, _, rfl, rfl, rfl, ⟨kd, n, w, insAt cs p c, r, off, dbl, ⟨g1, g2, g3, g4, by omega, hs, hmem⟩, ⟨rfl, rfl, by rw [hlen], c4, c5, fun i hi => hf i (by omega)⟩, hMC.1, hDV, hDC, hMC.2.1, hB⟩, hMC.2.2⟩
    · rw [if_neg (nI_pos (by omega)), if_pos (show c ∈ cs from ei ▸ gD_mem hi), if_neg n10, ← c3, ← c1, ← c2]; exact keep _
theorem c_mend {kind links cutCount : Int32} {worths ahead cuts : Nat → Int32} {each offc twice : Int32} {dues known far : Nat → Int32} {rows : Nat → Nat → Int32} {mw : Nat → Int32} (hC : RelC kind links cutCount worths ahead cuts each offc twice dues known far rows mw) (p0 : Int32) : ∃ (rx : Int32 × Int32 × (Nat → Int32)) (ry : Int32 × (Nat → Int32)), f_X10_mend kind links cutCount cuts p0 = some rx ∧ f_X11_mend mw p0 = some ry ∧ rx.1 = ry.1 ∧ RelC kind links rx.2.1 worths ahead rx.2.2 each offc twice dues known far rows ry.2 ∧ ∀ x, 30 ≤ x → ry.2 x = mw x := by
  have keep : ∀ v : Int32, ∃ (rx : Int32 × Int32 × (Nat → Int32)) (ry : Int32 × (Nat → Int32)), some (v, cutCount, cuts) = some rx ∧ some (v, mw) = some ry ∧ rx.1 = ry.1 ∧ RelC kind links rx.2.1 worths ahead rx.2.2 each offc twice dues known far rows ry.2 ∧ ∀ x, 30 ≤ x → ry.2 x = mw x := fun v => ⟨_, _, rfl, rfl, rfl, hC, fun _ _ => rfl⟩
  obtain ⟨kd, n, w, cs, r, off, dbl, hV, hCC, hM, hDV, hDC, hD, hB⟩ := hC
  obtain ⟨m1, m2, m3, m4⟩ := id hM
  obtain ⟨g1, g2, g3, g4, g5, g6, g7⟩ := hV
  obtain ⟨c1, c2, c3, c4, c5, c6⟩ := hCC
  have hN := notchN_le (kd := kd) (n := n)
  have hb : ∀ x ∈ cs, x < 24 := fun x hx => by have := g7 x hx; omega
  have hb31 : ∀ x ∈ cs, x < 31 := fun x hx => by have := hb x hx; omega
  have hml : mask cs < 2 ^ 31 := mask_lt g6 hb31
  unfold f_X10_mend f_X11_mend
  obtain ⟨z, ez1, ez2, hz⟩ := notch_ok g1 g2 g3 m1 m2 p0
  rw [c1, c2, ez1, ez2]
  simp only [Option.bind_some]
  have e26 : mw (26 : Int32).toNatClampNeg = nI (mask cs) := m4
  rcases hz with rfl | ⟨rfl, c, hc, rfl⟩
  · rw [if_pos rfl, if_pos rfl, ← c1, ← c2]; exact keep _
  · rw [if_neg n10, if_neg n10, ob_t (by decide), e26, hasM g6 hb31 (by omega)]
    obtain ⟨z, ez, hz⟩ := placeOf_ok g5 hb (show c < 2 ^ 31 by omega) c6
    rw [c3, ez]
    simp only [Option.bind_some]
    rcases hz with ⟨hn, rfl⟩ | ⟨i, hi, ei, rfl⟩
    · rw [if_neg (show ¬ (0 : Int32) ≤ -1 by decide), if_neg hn, if_pos rfl, ← c3, ← c1, ← c2]; exact keep _
    · rw [if_pos (nI_pos' (by omega)), if_pos (show c ∈ cs from ei ▸ gD_mem hi), if_neg n10, ob_t (by decide), ob_t (by decide), ob_t (by decide)]
      obtain ⟨f, ef, hf⟩ := close_ok g5 hi c6
      have hs := er_srt g6 i
      have hlen : (cs.eraseIdx i).length = cs.length - 1 := List.length_eraseIdx_of_lt hi
      have eand : mask cs &&& (2 ^ c ^^^ (2 ^ 32 - 1)) = mask (cs.eraseIdx i) := mask_ext (ds := []) hs (fun k => by
        rw [Nat.testBit_and, mask_bit cs g6, Nat.testBit_xor, Nat.testBit_two_pow, Nat.testBit_two_pow_sub_one]
        by_cases a : k ∈ cs
        · have := hb k a
          by_cases b : c = k
          · rw [decide_eq_true a, decide_eq_true b, decide_eq_true (show k < 32 by omega), decide_eq_false (fun z => ((er_mem g6 hi k).mp z).2 (by rw [ei, b]))]; rfl
          · rw [decide_eq_true a, decide_eq_false b, decide_eq_true (show k < 32 by omega), decide_eq_true ((er_mem g6 hi k).mpr ⟨a, by rw [ei]; exact fun z => b z.symm⟩)]; rfl
        · rw [decide_eq_false a, decide_eq_false (fun z => a ((er_mem g6 hi k).mp z).1)]; rfl)
      have hmem : ∀ x ∈ cs.eraseIdx i, x < notchN kd n := fun x hx => g7 x ((er_mem g6 hi x).mp hx).1
      rw [ef, shl31 (by omega), show (-1 : Int32) = nI (2 ^ 32 - 1) from rfl, xor_n, and_n, eand, show (26 : Int32).toNatClampNeg = 26 from rfl, pk_us, ones_ok hs (fun x hx => by have := hmem x hx; omega), hlen]
      have hMC := M_cut g3 hM hD (cs.eraseIdx i)
      exact ⟨_, _, rfl, rfl, rfl, ⟨kd, n, w, cs.eraseIdx i, r, off, dbl, ⟨g1, g2, g3, g4, by omega, hs, hmem⟩, ⟨rfl, rfl, by rw [hlen], c4, c5, fun i hi => hf i (by omega)⟩, hMC.1, hDV, hDC, hMC.2.1, hB⟩, hMC.2.2⟩
theorem c_notch {kind links cutCount : Int32} {worths ahead cuts : Nat → Int32} {each offc twice : Int32} {dues known far : Nat → Int32} {rows : Nat → Nat → Int32} {mw : Nat → Int32} (hC : RelC kind links cutCount worths ahead cuts each offc twice dues known far rows mw) (p0 : Int32) : ∃ (rx : Int32) (ry : Int32), f_X10_notch cutCount cuts p0 = some rx ∧ f_X11_notch mw p0 = some ry ∧ rx = ry := by
  obtain ⟨kd, n, w, cs, r, off, dbl, hV, hCC, ⟨m1, m2, m3, m4⟩, hDV, hDC, ⟨d1, d2, d3⟩, hB⟩ := hC
  obtain ⟨g1, g2, g3, g4, g5, g6, g7⟩ := hV
  obtain ⟨c1, c2, c3, c4, c5, c6⟩ := hCC
  have hN := notchN_le (kd := kd) (n := n)
  have hb31 : ∀ x ∈ cs, x < 31 := fun x hx => by have := g7 x hx; omega
  unfold f_X10_notch f_X11_notch B_X10_notch_30 B_X11_notch_37
  have e26 : mw (26 : Int32).toNatClampNeg = nI (mask cs) := m4
  rw [ob_t (show inb (26 : Int32) 60 = true by decide), e26, ones_ok g6 hb31, c3, within_ok]
  simp only [Option.bind_some]
  rw [show (0 : Int64) = (0 : Int32).toInt64 from rfl, in_int]
  simp only [Option.bind_some]
  by_cases h : (0 : Int32) ≤ p0 ∧ p0 ≤ nI cs.length - 1
  · rw [if_pos h, if_neg n10, if_neg n10, ob_t (show inb (26 : Int32) 60 = true by decide)]
    obtain ⟨j, hj, rfl⟩ := nI_of (Int32.not_lt.mpr h.1)
    have hj2 : j < cs.length := by
      have hh := h.2
      by_cases h0 : cs.length = 0
      · rw [h0] at hh
        exact absurd (Int32.le_trans (nI_pos' hj) hh) (by decide)
      · rw [lit, nI_subT (by omega)] at hh
        have := (nI_leI hj (by omega)).mp hh
        omega
    rw [atOf_ok g6 hb31 hj2 (by omega), ob_t (inb_nI (show j < 5 by omega) (by decide)), nI_clamp (by omega), c6 j hj2]
    exact ⟨_, _, rfl, rfl, rfl⟩
  · rw [if_neg h, if_pos rfl, if_pos rfl]
    exact ⟨_, _, rfl, rfl, rfl⟩
