/-! cuts as a rising row and as bits -/
theorem gD {l : List Nat} {i : Nat} (h : i < l.length) : l.getD i 0 = l[i] := by
  rw [List.getD_eq_getElem?_getD, List.getElem?_eq_getElem h]; rfl
theorem gD_mem {l : List Nat} {i : Nat} (h : i < l.length) : l.getD i 0 ∈ l := by
  rw [gD h]; exact List.getElem_mem h
theorem mem_gD {l : List Nat} {c : Nat} (h : c ∈ l) : ∃ i, i < l.length ∧ l.getD i 0 = c := by
  obtain ⟨i, hi, e⟩ := List.getElem_of_mem h
  exact ⟨i, hi, by rw [gD hi]; exact e⟩
theorem srt_iff {l : List Nat} : l.Pairwise (· < ·) ↔ ∀ i j, i < j → j < l.length → l.getD i 0 < l.getD j 0 := by
  rw [List.pairwise_iff_getElem]
  constructor
  · intro h i j hij hj
    rw [gD hj, gD (by omega)]
    exact h i j (by omega) hj hij
  · intro h i j hi hj hij
    have := h i j hij hj
    rw [gD hj, gD hi] at this
    exact this
theorem mask_dvd {m : Nat} : ∀ t : List Nat, (∀ x ∈ t, m ≤ x) → ∃ q, mask t = 2 ^ m * q
  | [], _ => ⟨0, rfl⟩
  | c :: t, h => by
    obtain ⟨q, hq⟩ := mask_dvd t (fun x hx => h x (List.mem_cons_of_mem _ hx))
    have hc := h c List.mem_cons_self
    refine ⟨2 ^ (c - m) + q, ?_⟩
    show 2 ^ c + mask t = _
    rw [hq, Nat.mul_add, ← Nat.pow_add, show m + (c - m) = c by omega]
theorem mask_forms {c : Nat} {t : List Nat} (h : ∀ x ∈ t, c < x) : ∃ q, mask t = 2 ^ c * (2 * q) + 0 ∧ mask (c :: t) = 2 ^ c * (2 * q + 1) + 0 ∧ mask (c :: t) - 1 = 2 ^ c * (2 * q) + (2 ^ c - 1) := by
  obtain ⟨q, hq⟩ := mask_dvd (m := c + 1) t (fun x hx => h x hx)
  have hp : 0 < 2 ^ c := Nat.two_pow_pos c
  have e0 : mask t = 2 ^ c * (2 * q) + 0 := by rw [hq, Nat.pow_succ, Nat.mul_assoc]; rfl
  have e1 : mask (c :: t) = 2 ^ c * (2 * q + 1) + 0 := by
    show 2 ^ c + mask t = _
    rw [e0, Nat.mul_add]; omega
  refine ⟨q, e0, e1, ?_⟩
  rw [e1, Nat.mul_add]; omega
theorem tb2 (q s : Nat) : (2 * q + 1).testBit (s + 1) = q.testBit s ∧ (2 * q).testBit (s + 1) = q.testBit s := by
  rw [Nat.testBit_succ, Nat.testBit_succ, show (2 * q + 1) / 2 = q by omega, show 2 * q / 2 = q by omega]
  exact ⟨rfl, rfl⟩
theorem mask_low {c : Nat} {t : List Nat} (h : ∀ x ∈ t, c < x) : mask (c :: t) &&& (mask (c :: t) - 1) = mask t := by
  obtain ⟨q, e0, e1, e2⟩ := mask_forms h
  have hp : 0 < 2 ^ c := Nat.two_pow_pos c
  apply Nat.eq_of_testBit_eq
  intro k
  rw [Nat.testBit_and, e2, e1, e0, Nat.testBit_two_pow_mul_add _ hp, Nat.testBit_two_pow_mul_add _ (show 2 ^ c - 1 < 2 ^ c by omega), Nat.testBit_two_pow_mul_add _ hp]
  by_cases hk : k < c
  · simp [hk]
  · simp only [hk, if_false]
    obtain ⟨s, rfl⟩ : ∃ s, k = c + s := ⟨k - c, by omega⟩
    rw [show c + s - c = s by omega]
    cases s with
    | zero => simp
    | succ s => rw [(tb2 q s).1, (tb2 q s).2, Bool.and_self]
theorem mask_bit : ∀ (cs : List Nat), cs.Pairwise (· < ·) → ∀ k, (mask cs).testBit k = decide (k ∈ cs)
  | [], _, k => by simp [mask]
  | c :: t, h, k => by
    have ht := List.pairwise_cons.mp h
    obtain ⟨q, e0, e1, -⟩ := mask_forms ht.1
    have ih := mask_bit t ht.2 k
    have hp : 0 < 2 ^ c := Nat.two_pow_pos c
    rw [e0, Nat.testBit_two_pow_mul_add _ hp] at ih
    rw [e1, Nat.testBit_two_pow_mul_add _ hp]
    by_cases hk : k < c
    · rw [if_pos hk] at ih ⊢
      rw [ih]
      have : ¬ k = c := by omega
      simp [this]
    · rw [if_neg hk] at ih ⊢
      obtain ⟨s, rfl⟩ : ∃ s, k = c + s := ⟨k - c, by omega⟩
      rw [show c + s - c = s by omega] at ih ⊢
      cases s with
      | zero => simp
      | succ s =>
        rw [(tb2 q s).2] at ih
        rw [(tb2 q s).1, ih]
        have : ¬ c + (s + 1) = c := by omega
        simp [this]
theorem mask_lt {b : Nat} {cs : List Nat} (h : cs.Pairwise (· < ·)) (hb : ∀ c ∈ cs, c < b) : mask cs < 2 ^ b := by
  apply Nat.lt_pow_two_of_testBit
  intro i hi
  rw [mask_bit cs h]
  exact decide_eq_false (fun z => by have := hb i z; omega)
theorem mask_ext {cs ds : List Nat} {x : Nat} (h : cs.Pairwise (· < ·)) (hx : ∀ k, x.testBit k = decide (k ∈ cs)) : x = mask cs := by
  apply Nat.eq_of_testBit_eq
  intro k
  rw [hx, mask_bit cs h]
theorem mask_pos (c : Nat) (t : List Nat) : 0 < mask (c :: t) := by
  have := Nat.two_pow_pos c
  show 0 < 2 ^ c + mask t
  omega
theorem ones_ok {cs : List Nat} (h : cs.Pairwise (· < ·)) (hb : ∀ c ∈ cs, c < 31) : f_X11_ones (nI (mask cs)) = some (nI cs.length) := by
  unfold f_X11_ones L_X11_ones_4 B_X11_ones_20
  have hl : mask cs < 2 ^ 31 := mask_lt h hb
  have hm : ∀ l : List Nat, l.Pairwise (· < ·) → (∀ c ∈ l, c < 31) → l.length < 2 ^ 31 := by
    intro l h1 h2
    refine Decidable.byContradiction (fun hh => ?_)
    have := srt_iff.mp h1
    have g : ∀ i, i < l.length → i ≤ l.getD i 0 := by
      intro i
      induction i with
      | zero => intro _; omega
      | succ i ih => intro hi; have := this i (i + 1) (by omega) hi; have := ih (by omega); omega
    have := g 31 (by omega)
    have := h2 _ (gD_mem (show 31 < l.length by omega))
    omega
  have hN := hm cs h hb
  refine loopQ _ (fun o => o = some (nI cs.length)) (fun m a => ∃ (l : List Nat) (k : Nat), a = (nI k, nI (mask l)) ∧ l.Pairwise (· < ·) ∧ (∀ c ∈ l, c < 31) ∧ k + l.length = cs.length ∧ m = l.length) ?_ FUEL cs.length _ ⟨cs, 0, rfl, h, hb, by omega, rfl⟩ (fuel_lt (by omega))
  rintro m a ⟨l, k, rfl, h1, h2, h3, rfl⟩
  have hll : mask l < 2 ^ 31 := mask_lt h1 h2
  cases l with
  | nil =>
    refine Or.inl (fun rec => ?_)
    show LB_X11_ones_4 _ rec (nI k) (nI 0) = _
    unfold LB_X11_ones_4
    rw [if_pos (show nI 0 = (0 : Int32) from rfl), ← h3]
    rfl
  | cons c t =>
    have hp := List.pairwise_cons.mp h1
    have hpos := mask_pos c t
    refine Or.inr ⟨t.length, (nI (k + 1), nI (mask t)), by simp, ⟨t, k + 1, rfl, hp.2, fun x hx => h2 x (List.mem_cons_of_mem _ hx), by simp at h3; omega, rfl⟩, fun rec => ?_⟩
    show LB_X11_ones_4 _ rec (nI k) (nI (mask (c :: t))) = _
    unfold LB_X11_ones_4
    simp (disch := omega) only [lit, nI_add, pk_mul, nI_subT, nI_m1T, nI_clamp, nI_ltI, nI_leI, nI_eq, inb_T, ob_tt, Option.bind_some, ↓reduceIte, shl1_n, shr_n', and_n, or_n, xor_n, n31, dvd_n, pk_us, pk_un, gt_iff_lt, ge_iff_le, m1lt, m1ge]
    rw [if_neg (by omega), mask_low hp.1]
theorem drop_cons {cs : List Nat} {k : Nat} (h : k < cs.length) : cs.drop k = cs.getD k 0 :: cs.drop (k + 1) := by
  rw [gD h]; exact List.drop_eq_getElem_cons h
theorem atOf_ok {cs : List Nat} (h : cs.Pairwise (· < ·)) (hb : ∀ c ∈ cs, c < 31) {i : Nat} (hi : i < cs.length) (hi2 : i < 31) : f_X11_atOf (nI (mask cs)) (nI i) = some (nI (cs.getD i 0)) := by
  unfold f_X11_atOf L_X11_atOf_4
  have hd : ∀ k, (cs.drop k).Pairwise (· < ·) ∧ ∀ c ∈ cs.drop k, c < 31 := fun k => ⟨h.drop, fun c hc => hb c (List.mem_of_mem_drop hc)⟩
  have hlt : ∀ k, mask (cs.drop k) < 2 ^ 31 := fun k => mask_lt (hd k).1 (hd k).2
  refine loopQ _ (fun o => o = some (nI (cs.getD i 0))) (fun m a => ∃ k : Nat, a = (nI (mask (cs.drop k)), nI k) ∧ k ≤ i ∧ m = i - k) ?_ FUEL i _ ⟨0, rfl, by omega, by omega⟩ (fuel_lt (by omega))
  rintro m a ⟨k, rfl, h1, rfl⟩
  by_cases hk : k = i
  · subst hk
    refine Or.inl (fun rec => ?_)
    show LB_X11_atOf_4 _ _ rec (nI (mask (cs.drop k))) (nI k) = _
    unfold LB_X11_atOf_4
    rw [if_pos (nI_le (Nat.le_refl _) (by omega))]
    show B_X11_atOf_21 (nI (mask (cs.drop k))) = _
    unfold B_X11_atOf_21 L_X11_atOf_23
    have hc31 : cs.getD k 0 < 31 := hb _ (gD_mem hi)
    refine upQ0 _ (fun o => o = some (nI (cs.getD k 0))) (cs.getD k 0) (fun _ => True) (by omega) ?_ ?_ (j := 0) (by omega) trivial
    · intro j hj _
      refine Or.inr ⟨trivial, fun rec => ?_⟩
      show LB_X11_atOf_23 _ _ rec (nI j) = _
      unfold LB_X11_atOf_23
      rw [has_ok (hlt k) (by omega), mask_bit _ (hd k).1, decide_eq_false (fun z => ?_)]
      · simp (disch := omega) only [lit, nI_add, pk_mul, nI_subT, nI_m1T, nI_clamp, nI_ltI, nI_leI, nI_eq, inb_T, ob_tt, Option.bind_some, ↓reduceIte, shl1_n, shr_n', and_n, or_n, xor_n, n31, dvd_n, pk_us, pk_un, gt_iff_lt, ge_iff_le, m1lt, m1ge]
        rfl
      · rw [drop_cons hi] at z
        have hp := List.pairwise_cons.mp (drop_cons hi ▸ (hd k).1)
        rcases List.mem_cons.mp z with z | z
        · omega
        · have := hp.1 _ z; omega
    · intro _ rec
      show LB_X11_atOf_23 _ _ rec (nI (cs.getD k 0)) = _
      unfold LB_X11_atOf_23
      rw [has_ok (hlt k) (by omega), mask_bit _ (hd k).1, decide_eq_true (by rw [drop_cons hi]; exact List.mem_cons_self)]
      rfl
  · refine Or.inr ⟨i - (k + 1), _, by omega, ⟨k + 1, rfl, by omega, rfl⟩, fun rec => ?_⟩
    show LB_X11_atOf_4 _ _ rec (nI (mask (cs.drop k))) (nI k) = _
    unfold LB_X11_atOf_4
    have hk2 : k < cs.length := by omega
    have hlk := hlt k
    have hdk := (hd k).1
    rw [drop_cons hk2] at hlk hdk ⊢
    have hpos := mask_pos (cs.getD k 0) (cs.drop (k + 1))
    simp (disch := omega) only [lit, nI_add, pk_mul, nI_subT, nI_m1T, nI_clamp, nI_ltI, nI_leI, nI_eq, inb_T, ob_tt, Option.bind_some, ↓reduceIte, shl1_n, shr_n', and_n, or_n, xor_n, n31, dvd_n, pk_us, pk_un, gt_iff_lt, ge_iff_le, m1lt, m1ge]
    rw [if_neg (by omega), mask_low (List.pairwise_cons.mp hdk).1]
