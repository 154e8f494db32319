/-! rows of cuts, one behind the other -/
theorem upl_len : ∀ n a, (upl a n).length = n
  | 0, _ => rfl
  | n + 1, a => by
    show (upl (a + 1) n).length + 1 = n + 1
    rw [upl_len n]
theorem upl_get : ∀ n a i, i < n → (upl a n).getD i 0 = a + i
  | 0, _, _, h => absurd h (by omega)
  | n + 1, a, 0, _ => rfl
  | n + 1, a, i + 1, h => by
    show (upl (a + 1) n).getD i 0 = a + (i + 1)
    rw [upl_get n (a + 1) i (by omega)]; omega
/-- a row that may be: as long as said, rising, below m -/
def RV (m k : Nat) (R : List Nat) : Prop := R.length = k ∧ R.Pairwise (· < ·) ∧ ∀ c ∈ R, c < m
theorem RV_upl {m k : Nat} (h : k ≤ m) : RV m k (upl 0 k) := by
  refine ⟨upl_len k 0, srt_iff.mpr (fun i j hij hj => ?_), fun c hc => ?_⟩
  · rw [upl_len] at hj
    rw [upl_get _ _ _ hj, upl_get _ _ _ (by omega)]; omega
  · obtain ⟨i, hi, rfl⟩ := mem_gD hc
    rw [upl_len] at hi
    rw [upl_get _ _ _ hi]; omega
theorem RV_gap {m k : Nat} {R : List Nat} (h : RV m k R) {i : Nat} (hi : i < k) : R.getD i 0 + (k - i) ≤ m := by
  obtain ⟨h1, h2, h3⟩ := h
  have hs := srt_iff.mp h2
  have : ∀ d, i + d < k → R.getD i 0 + d ≤ R.getD (i + d) 0 := by
    intro d
    induction d with
    | zero => intro _; exact Nat.le_refl _
    | succ d ih => intro hd; have := hs (i + d) (i + (d + 1)) (by omega) (by omega); have := ih (by omega); omega
  have a := this (k - 1 - i) (by omega)
  rw [show i + (k - 1 - i) = k - 1 by omega] at a
  have := h3 _ (gD_mem (show k - 1 < R.length by omega))
  omega
theorem nxt_none {m : Nat} : ∀ R : List Nat, (∀ i, i < R.length → ¬ R.getD i 0 + (R.length - i) < m) → nxt m R = none
  | [], _ => rfl
  | a :: t, h => by
    have ih := nxt_none (m := m) t (fun i hi => by
      have := h (i + 1) (by simp; omega)
      rw [List.getD_cons_succ, List.length_cons] at this
      omega)
    show (match nxt m t with
      | some t' => some (a :: t')
      | none => if a + 1 + t.length < m then some (upl (a + 1) (t.length + 1)) else none) = none
    rw [ih]
    have := h 0 (by simp)
    rw [List.getD_cons_zero, List.length_cons] at this
    show (if a + 1 + t.length < m then some (upl (a + 1) (t.length + 1)) else none) = none
    rw [if_neg (by omega)]
theorem nxt_at {m : Nat} : ∀ (R : List Nat) (i : Nat), i < R.length → R.getD i 0 + (R.length - i) < m → (∀ j, i < j → j < R.length → ¬ R.getD j 0 + (R.length - j) < m) → nxt m R = some (R.take i ++ upl (R.getD i 0 + 1) (R.length - i))
  | [], i, h, _, _ => absurd h (by simp)
  | a :: t, 0, _, h1, h2 => by
    have ih := nxt_none (m := m) t (fun j hj => by
      have := h2 (j + 1) (by omega) (by simp; omega)
      rw [List.getD_cons_succ, List.length_cons] at this
      omega)
    show (match nxt m t with
      | some t' => some (a :: t')
      | none => if a + 1 + t.length < m then some (upl (a + 1) (t.length + 1)) else none) = _
    rw [ih]
    rw [List.getD_cons_zero, List.length_cons] at h1
    show (if a + 1 + t.length < m then some (upl (a + 1) (t.length + 1)) else none) = some (upl (a + 1) (t.length + 1 - 0))
    rw [if_pos (by omega)]
    rfl
  | a :: t, i + 1, h0, h1, h2 => by
    rw [List.length_cons] at h0
    rw [List.getD_cons_succ, List.length_cons] at h1
    have ih := nxt_at (m := m) t i (by omega) (by omega) (fun j hj hj2 => by
      have := h2 (j + 1) (by omega) (by simp; omega)
      rw [List.getD_cons_succ, List.length_cons] at this
      omega)
    show (match nxt m t with
      | some t' => some (a :: t')
      | none => if a + 1 + t.length < m then some (upl (a + 1) (t.length + 1)) else none) = _
    rw [ih, List.getD_cons_succ, List.length_cons, List.take_succ_cons, List.cons_append, show t.length + 1 - (i + 1) = t.length - i by omega]
/-- the row with place i raised -/
def rai (R : List Nat) (i : Nat) : List Nat := R.take i ++ upl (R.getD i 0 + 1) (R.length - i)
theorem rai_len {R : List Nat} {i : Nat} (hi : i < R.length) : (rai R i).length = R.length := by
  unfold rai
  rw [List.length_append, List.length_take, upl_len]; omega
theorem rai_get {R : List Nat} {i j : Nat} (hi : i < R.length) (hj : j < R.length) : (rai R i).getD j 0 = if j < i then R.getD j 0 else R.getD i 0 + 1 + (j - i) := by
  unfold rai
  by_cases h : j < i
  · rw [if_pos h, gDa (by rw [List.length_take]; omega), List.getD_eq_getElem?_getD, List.getElem?_take, if_pos h, List.getD_eq_getElem?_getD]
  · rw [if_neg h, gDb (by rw [List.length_take]; omega), List.length_take, Nat.min_eq_left (by omega), upl_get _ _ _ (by omega)]
theorem RV_rai {m k : Nat} {R : List Nat} (h : RV m k R) {i : Nat} (hi : i < k) (hc : R.getD i 0 + (k - i) < m) : RV m k (rai R i) := by
  obtain ⟨h1, h2, h3⟩ := h
  have hs := srt_iff.mp h2
  have hl := rai_len (R := R) (i := i) (by omega)
  refine ⟨by rw [hl]; exact h1, srt_iff.mpr (fun a b hab hb => ?_), fun c hc2 => ?_⟩
  · rw [hl] at hb
    rw [rai_get (by omega) (by omega), rai_get (by omega) hb]
    by_cases ha : a < i
    · rw [if_pos ha]
      by_cases hbi : b < i
      · rw [if_pos hbi]; exact hs a b hab hb
      · rw [if_neg hbi]; have := hs a i ha (by omega); omega
    · rw [if_neg ha, if_neg (by omega)]; omega
  · obtain ⟨j, hj, rfl⟩ := mem_gD hc2
    rw [hl] at hj
    rw [rai_get (by omega) hj]
    by_cases hji : j < i
    · rw [if_pos hji]; exact h3 _ (gD_mem hj)
    · rw [if_neg hji]; omega
/-- either no next row, or place i is raised: found from behind -/
theorem nxt_cases {m k : Nat} {R : List Nat} (h : RV m k R) : (nxt m R = none ∧ ∀ i, i < k → ¬ R.getD i 0 + (k - i) < m) ∨ ∃ i, i < k ∧ R.getD i 0 + (k - i) < m ∧ (∀ j, i < j → j < k → ¬ R.getD j 0 + (k - j) < m) ∧ nxt m R = some (rai R i) := by
  have h1 := h.1
  by_cases hn : ∀ i, i < k → ¬ R.getD i 0 + (k - i) < m
  · exact Or.inl ⟨nxt_none R (by rw [h1]; exact hn), hn⟩
  · have hex : ∃ d, d < k ∧ R.getD (k - 1 - d) 0 + (k - (k - 1 - d)) < m := by
      refine Classical.byContradiction (fun z => hn (fun i hi hc => z ⟨k - 1 - i, by omega, ?_⟩))
      rw [show k - 1 - (k - 1 - i) = i by omega]; exact hc
    obtain ⟨d, ⟨hd, hc⟩, hmin⟩ := pk_least _ hex
    have hj : ∀ j, k - 1 - d < j → j < k → ¬ R.getD j 0 + (k - j) < m := fun j a b c => hmin (k - 1 - j) (by omega) ⟨by omega, by rw [show k - 1 - (k - 1 - j) = j by omega]; exact c⟩
    refine Or.inr ⟨k - 1 - d, by omega, hc, hj, ?_⟩
    have := nxt_at (m := m) R (k - 1 - d) (by omega) (by rw [h1]; exact hc) (by rw [h1]; exact hj)
    exact this
def rk : List Nat → Nat
  | [] => 0
  | a :: t => a * 25 ^ t.length + rk t
theorem rk_lt : ∀ R : List Nat, (∀ c ∈ R, c < 25) → rk R < 25 ^ R.length
  | [], _ => by decide
  | a :: t, h => by
    have ih := rk_lt t (fun c hc => h c (List.mem_cons_of_mem _ hc))
    have ha := h a List.mem_cons_self
    show a * 25 ^ t.length + rk t < 25 ^ (t.length + 1)
    rw [Nat.pow_succ]
    have : (a + 1) * 25 ^ t.length ≤ 25 * 25 ^ t.length := Nat.mul_le_mul_right _ (by omega)
    rw [Nat.add_mul, Nat.one_mul] at this
    omega
theorem rk_nxt {m : Nat} : ∀ (R R' : List Nat), (∀ c ∈ R, c < 25) → nxt m R = some R' → rk R < rk R' ∧ R'.length = R.length
  | [], _, _, h => by cases h
  | a :: t, R', hb, h => by
    have h' : (match nxt m t with
      | some t' => some (a :: t')
      | none => if a + 1 + t.length < m then some (upl (a + 1) (t.length + 1)) else none) = some R' := h
    have hbt : ∀ c ∈ t, c < 25 := fun c hc => hb c (List.mem_cons_of_mem _ hc)
    rcases e : nxt m t with _ | t'
    · rw [e] at h'
      have h'' : (if a + 1 + t.length < m then some (upl (a + 1) (t.length + 1)) else none) = some R' := h'
      by_cases hc : a + 1 + t.length < m
      · rw [if_pos hc] at h''
        have := Option.some.inj h''
        subst this
        refine ⟨?_, by rw [upl_len]; rfl⟩
        show a * 25 ^ t.length + rk t < (a + 1) * 25 ^ (upl (a + 1 + 1) t.length).length + _
        rw [upl_len, Nat.add_mul, Nat.one_mul]
        have := rk_lt t hbt
        omega
      · rw [if_neg hc] at h''; cases h''
    · rw [e] at h'
      have h'' : some (a :: t') = some R' := h'
      have := Option.some.inj h''
      subst this
      obtain ⟨i1, i2⟩ := rk_nxt t t' hbt e
      refine ⟨?_, by simp [i2]⟩
      show a * 25 ^ t.length + rk t < a * 25 ^ t'.length + rk t'
      rw [i2]; omega
theorem rowsF_some {m n : Nat} {R R' : List Nat} (h : nxt m R = some R') : rowsF m (n + 1) R = R :: rowsF m n R' := by
  show R :: (match nxt m R with | none => [] | some R' => rowsF m n R') = _
  rw [h]
theorem rowsF_none {m n : Nat} {R : List Nat} (h : nxt m R = none) : rowsF m n R = [R] := by
  cases n with
  | zero => rfl
  | succ n =>
    show R :: (match nxt m R with | none => [] | some R' => rowsF m n R') = _
    rw [h]
def RR (R : List Nat) (row : Nat → Int32) : Prop := ∀ i, i < R.length → row i = nI (R.getD i 0)
/-- raising from place i on: the loops -/
theorem raiC {m k i : Nat} {R : List Nat} {row : Nat → Int32} (h : RV m k R) (hm : m ≤ 24) (hk : k ≤ 4) (hi : i < k) (hc : R.getD i 0 + (k - i) < m) (hr : RR R row) (kx : Int32 × (Nat → Int32) → Option (Int32 × (Nat → Int32))) : ∃ row', L_X2_step_45 (nI k) kx FUEL (nI (i + 1), upd row i (nI (R.getD i 0 + 1))) = kx (nI k, row') ∧ RR (rai R i) row' := by
  have h1 := h.1
  unfold L_X2_step_45
  refine upQ _ (fun o => ∃ row', o = kx (nI k, row') ∧ RR (rai R i) row') k (fun j row => i < j ∧ ∀ t, t < j → row t = nI ((rai R i).getD t 0)) (by omega) ?_ ?_ (by omega) ⟨by omega, fun t ht => ?_⟩
  · rintro j row hj ⟨hij, hI⟩
    refine Or.inr ⟨upd row j (nI ((rai R i).getD j 0)), ⟨by omega, fun t ht => ?_⟩, fun rec => ?_⟩
    · by_cases e : t = j
      · rw [e, pk_us]
      · rw [pk_un e]; exact hI t (by omega)
    · show LB_X2_step_45 _ _ rec (nI j) row = _
      unfold LB_X2_step_45
      simp (disch := omega) only [lit, nI_add, pk_mul, nI_subT, nI_m1T, nI_clamp, nI_ltI, nI_leI, nI_eq, inb_T, ob_tt, Option.bind_some, ↓reduceIte, shl1_n, shr_n', and_n, or_n, xor_n, n31, dvd_n, pk_us, pk_un, gt_iff_lt, ge_iff_le, m1lt, m1ge, hI (j - 1) (by omega)]
      rw [if_neg (by omega), rai_get (by omega) (by omega), rai_get (by omega) (by omega), if_neg (by omega), if_neg (by omega), show R.getD i 0 + 1 + (j - 1 - i) + 1 = R.getD i 0 + 1 + (j - i) by omega]
  · rintro row ⟨hij, hI⟩ rec
    refine ⟨row, ?_, fun t ht => hI t (by rw [rai_len (by omega)] at ht; omega)⟩
    show LB_X2_step_45 _ _ rec (nI k) row = _
    unfold LB_X2_step_45
    rw [if_pos (nI_le (Nat.le_refl _) (by omega))]
  · rw [rai_get (by omega) (by omega)]
    by_cases e : t = i
    · rw [e, pk_us, if_neg (by omega), Nat.sub_self]
    · rw [pk_un e, if_pos (by omega)]; exact hr t (by omega)
theorem step_ok {m k : Nat} {R : List Nat} {row : Nat → Int32} (h : RV m k R) (hm : m ≤ 24) (hk : k ≤ 4) (hr : RR R row) : (nxt m R = none ∧ f_X2_step (nI k) (nI m) row = some (0, row)) ∨ ∃ R' row', nxt m R = some R' ∧ RV m k R' ∧ RR R' row' ∧ f_X2_step (nI k) (nI m) row = some (1, row') := by
  have h1 := h.1
  have hkm : k ≤ m := by
    by_cases h0 : k = 0
    · omega
    · have := RV_gap h (i := 0) (by omega); omega
  rcases nxt_cases h with ⟨hn, ha⟩ | ⟨i, hi, hc, hj, hn⟩
  · refine Or.inl ⟨hn, ?_⟩
    unfold f_X2_step L_X2_step_7
    refine loopQ _ (fun o => o = some (0, row)) (fun p a => p ≤ k ∧ a = (nI p - 1, row)) ?_ FUEL k _ ⟨Nat.le_refl _, rfl⟩ (fuel_lt (by omega))
    rintro p a ⟨hp, rfl⟩
    cases p with
    | zero =>
      refine Or.inl (fun rec => ?_)
      show LB_X2_step_7 _ _ _ rec (nI 0 - 1) row = _
      unfold LB_X2_step_7
      rw [if_pos (show nI 0 - (1 : Int32) < 0 by decide)]; rfl
    | succ p =>
      refine Or.inr ⟨p, _, by omega, ⟨by omega, rfl⟩, fun rec => ?_⟩
      show LB_X2_step_7 _ _ _ rec (nI (p + 1) - 1) row = _
      unfold LB_X2_step_7
      have := ha p (by omega)
      have hg := RV_gap h (i := p) (by omega)
      rw [show nI (p + 1) - (1 : Int32) = nI p from nI_pred p, if_neg (nI_pos (by omega)), ob_t (inb_nI (by omega) (by decide)), pk_sub hkm, nI_add, nI_clamp (by omega), hr p (by omega), if_pos (nI_le (by omega) (by omega)), Int32.sub_eq_add_neg]
  · refine Or.inr ?_
    have hsp : nI (R.getD i 0) + (1 : Int32) = nI (R.getD i 0 + 1) := nI_1 _
    unfold f_X2_step L_X2_step_7
    have key : ∃ row', RR (rai R i) row' ∧ fixN (fun rec t => LB_X2_step_7 (nI k) (nI m) (fun t => B_X2_step_83 t.2) rec t.1 t.2) FUEL (nI k - 1, row) = some (1, row') := by
      refine loopR _ (fun o => ∃ row', RR (rai R i) row' ∧ o = some (1, row')) (fun p a => i < p ∧ p ≤ k ∧ a = (nI p - 1, row)) ?_ FUEL k _ ⟨by omega, Nat.le_refl _, rfl⟩ (fuel_lt (by omega))
      rintro p a ⟨hip, hp, rfl⟩ rec
      obtain ⟨p, rfl⟩ : ∃ q, p = q + 1 := ⟨p - 1, by omega⟩
      have hg := RV_gap h (i := p) (by omega)
      by_cases e : p = i
      · subst e
        obtain ⟨row', er, hr'⟩ := raiC h hm hk hi hc hr (fun t => B_X2_step_75 (fun t => B_X2_step_83 t.2) rec t.2)
        refine Or.inl ⟨row', hr', ?_⟩
        show LB_X2_step_7 _ _ _ rec (nI (p + 1) - 1) row = _
        unfold LB_X2_step_7
        have ii : inb (nI p) 4 = true := inb_nI (by omega) (by decide)
        rw [show nI (p + 1) - (1 : Int32) = nI p from nI_pred p, if_neg (nI_pos (by omega)), ob_t ii, ob_t ii, ob_t ii, pk_sub hkm, nI_add, nI_clamp (by omega), hr p (by omega), if_neg (nI_ge (by omega) (by omega)), hsp, nI_1]
        exact er
      · refine Or.inr ⟨p, _, by omega, ⟨by omega, by omega, rfl⟩, ?_⟩
        show LB_X2_step_7 _ _ _ rec (nI (p + 1) - 1) row = _
        unfold LB_X2_step_7
        have := hj p (by omega) (by omega)
        rw [show nI (p + 1) - (1 : Int32) = nI p from nI_pred p, if_neg (nI_pos (by omega)), ob_t (inb_nI (by omega) (by decide)), pk_sub hkm, nI_add, nI_clamp (by omega), hr p (by omega), if_pos (nI_le (by omega) (by omega)), Int32.sub_eq_add_neg]
    obtain ⟨row', a1, a2⟩ := key
    exact ⟨_, row', hn, RV_rai h hi hc, a1, a2⟩
theorem beginC_ok {m k : Nat} (hm : m ≤ 24) (hk : k ≤ 4) (row : Nat → Int32) : ∃ row', f_X2_begin row (nI k) (nI m) = some (if k ≤ m then 1 else 0, nI k, nI m, row') ∧ RR (upl 0 k) row' := by
  unfold f_X2_begin L_X2_begin_12
  refine upQ _ (fun o => ∃ row', o = some (if k ≤ m then 1 else 0, nI k, nI m, row') ∧ RR (upl 0 k) row') k (fun j row => ∀ t, t < j → row t = nI t) (by omega) ?_ ?_ (j := 0) (by omega) (fun t ht => absurd ht (by omega))
  · intro j row hj hI
    refine Or.inr ⟨upd row j (nI j), fun t ht => ?_, fun rec => ?_⟩
    · by_cases e : t = j
      · rw [e, pk_us]
      · rw [pk_un e]; exact hI t (by omega)
    · show LB_X2_begin_12 _ _ rec (nI j) row = _
      unfold LB_X2_begin_12
      rw [if_neg (nI_ge hj (by omega)), ob_t (inb_nI (by omega) (by decide)), nI_clamp (by omega), nI_1]
  · intro row hI rec
    refine ⟨row, ?_, fun t ht => ?_⟩
    · show LB_X2_begin_12 _ _ rec (nI k) row = _
      unfold LB_X2_begin_12
      rw [if_pos (nI_le (Nat.le_refl _) (by omega))]
      dsimp only
      unfold B_X2_begin_30 B_X2_begin_40
      by_cases h : k ≤ m
      · rw [if_neg (nI_nlt h (by omega)), if_pos h]; exact ob_t zb1 _
      · rw [if_pos (nI_lt (by omega) (by omega)), if_neg h]; exact ob_t zb0 _
    · rw [upl_len] at ht
      rw [hI t ht, upl_get _ _ _ ht, Nat.zero_add]
theorem beginM_ok {k : Nat} (hk : k ≤ 4) (row : Nat → Int32) : ∃ row', f_X11_begin row (nI k) = some (nI (mask (upl 0 k)), row') ∧ RR (upl 0 k) row' := by
  have hmask : mask (upl 0 k) = 2 ^ k - 1 := by
    refine (mask_ext (ds := []) (RV_upl (Nat.le_refl k)).2.1 (fun t => ?_)).symm
    rw [Nat.testBit_two_pow_sub_one]
    refine decide_eq_decide.mpr ⟨fun h => ?_, fun h => (RV_upl (Nat.le_refl k)).2.2 t h⟩
    have := gD_mem (l := upl 0 k) (i := t) (by rw [upl_len]; exact h)
    rw [upl_get _ _ _ h, Nat.zero_add] at this
    exact this
  unfold f_X11_begin L_X11_begin_2
  refine upQ _ (fun o => ∃ row', o = some (nI (mask (upl 0 k)), row') ∧ RR (upl 0 k) row') k (fun j row => ∀ t, t < j → row t = nI t) (by omega) ?_ ?_ (j := 0) (by omega) (fun t ht => absurd ht (by omega))
  · intro j row hj hI
    refine Or.inr ⟨upd row j (nI j), fun t ht => ?_, fun rec => ?_⟩
    · by_cases e : t = j
      · rw [e, pk_us]
      · rw [pk_un e]; exact hI t (by omega)
    · show LB_X11_begin_2 _ _ rec (nI j) row = _
      unfold LB_X11_begin_2
      rw [if_neg (nI_ge hj (by omega)), ob_t (inb_nI (by omega) (by decide)), nI_clamp (by omega), nI_1]
  · intro row hI rec
    refine ⟨row, ?_, fun t ht => ?_⟩
    · show LB_X11_begin_2 _ _ rec (nI k) row = _
      unfold LB_X11_begin_2
      rw [if_pos (nI_le (Nat.le_refl _) (by omega))]
      dsimp only
      unfold B_X11_begin_20
      rw [shl31 (by omega), hmask, show nI (2 ^ k) - (1 : Int32) = nI (2 ^ k - 1) from pk_sub (b := 1) Nat.one_le_two_pow]
    · rw [upl_len] at ht
      rw [hI t ht, upl_get _ _ _ ht, Nat.zero_add]
theorem setOf_ok {R : List Nat} {row : Nat → Int32} (h4 : R.length ≤ 4) (hs : R.Pairwise (· < ·)) (hb : ∀ c ∈ R, c < 24) (hr : RR R row) : B_X11_goesOn_79 row (nI R.length) = some (1, nI (mask R), row) := by
  unfold B_X11_goesOn_79 L_X11_goesOn_87
  refine upQ _ (fun o => o = some (1, nI (mask R), row)) R.length (fun j z => z = nI (mask (R.take j))) (by omega) ?_ ?_ (j := 0) (by omega) rfl
  · rintro j z hj rfl
    refine Or.inr ⟨_, rfl, fun rec => ?_⟩
    show LB_X11_goesOn_87 _ _ _ rec (nI j) (nI (mask (R.take j))) = _
    unfold LB_X11_goesOn_87
    have hc := hb _ (gD_mem hj)
    rw [if_neg (nI_ge hj (by omega)), ob_t (inb_nI (by omega) (by decide)), nI_clamp (by omega), hr j hj, shl31 (by omega), or_n, nI_1]
    have : mask (R.take j) ||| 2 ^ R.getD j 0 = mask (R.take (j + 1)) := mask_ext (ds := []) (hs.sublist (List.take_sublist _ _)) (fun k => by
      rw [Nat.testBit_or, mask_bit _ (hs.sublist (List.take_sublist _ _)), Nat.testBit_two_pow, ← Bool.decide_or]
      refine decide_eq_decide.mpr ?_
      rw [List.take_succ_eq_append_getElem hj, List.mem_append, List.mem_singleton, gD hj]
      constructor
      · rintro (h | h)
        · exact Or.inl h
        · exact Or.inr h.symm
      · rintro (h | h)
        · exact Or.inl h
        · exact Or.inr h.symm)
    rw [this]
  · rintro z rfl rec
    show LB_X11_goesOn_87 _ _ _ rec (nI R.length) (nI (mask (R.take R.length))) = _
    unfold LB_X11_goesOn_87
    rw [if_pos (nI_le (Nat.le_refl _) (by omega)), List.take_length]
    rfl
theorem raiM {m k i : Nat} {R : List Nat} {row : Nat → Int32} (h : RV m k R) (hm : m ≤ 24) (hk : k ≤ 4) (hi : i < k) (hc : R.getD i 0 + (k - i) < m) (hr : RR R row) : ∃ row', L_X11_goesOn_49 (nI k) (fun t => B_X11_goesOn_79 t.2 (nI k)) FUEL (nI (i + 1), upd row i (nI (R.getD i 0 + 1))) = some (1, nI (mask (rai R i)), row') ∧ RR (rai R i) row' := by
  have h1 := h.1
  have hV := RV_rai h hi hc
  unfold L_X11_goesOn_49
  refine upQ _ (fun o => ∃ row', o = some (1, nI (mask (rai R i)), row') ∧ RR (rai R i) row') k (fun j row => i < j ∧ ∀ t, t < j → row t = nI ((rai R i).getD t 0)) (by omega) ?_ ?_ (by omega) ⟨by omega, fun t ht => ?_⟩
  · rintro j row hj ⟨hij, hI⟩
    refine Or.inr ⟨upd row j (nI ((rai R i).getD j 0)), ⟨by omega, fun t ht => ?_⟩, fun rec => ?_⟩
    · by_cases e : t = j
      · rw [e, pk_us]
      · rw [pk_un e]; exact hI t (by omega)
    · show LB_X11_goesOn_49 _ _ rec (nI j) row = _
      unfold LB_X11_goesOn_49
      simp (disch := omega) only [lit, nI_add, pk_mul, nI_subT, nI_m1T, nI_clamp, nI_ltI, nI_leI, nI_eq, inb_T, ob_tt, Option.bind_some, ↓reduceIte, shl1_n, shr_n', and_n, or_n, xor_n, n31, dvd_n, pk_us, pk_un, gt_iff_lt, ge_iff_le, m1lt, m1ge, hI (j - 1) (by omega)]
      rw [if_neg (by omega), rai_get (by omega) (by omega), rai_get (by omega) (by omega), if_neg (by omega), if_neg (by omega), show R.getD i 0 + 1 + (j - 1 - i) + 1 = R.getD i 0 + 1 + (j - i) by omega]
  · rintro row ⟨hij, hI⟩ rec
    have hrr : RR (rai R i) row := fun t ht => hI t (by rw [rai_len (by omega)] at ht; omega)
    refine ⟨row, ?_, hrr⟩
    show LB_X11_goesOn_49 _ _ rec (nI k) row = _
    unfold LB_X11_goesOn_49
    rw [if_pos (nI_le (Nat.le_refl _) (by omega))]
    dsimp only
    have := setOf_ok (by rw [hV.1]; exact hk) hV.2.1 (fun c hc => by have := hV.2.2 c hc; omega) hrr
    rw [hV.1] at this
    exact this
  · rw [rai_get (by omega) (by omega)]
    by_cases e : t = i
    · rw [e, pk_us, if_neg (by omega), Nat.sub_self]
    · rw [pk_un e, if_pos (by omega)]; exact hr t (by omega)
theorem goesOn_ok {m k : Nat} {R : List Nat} {row : Nat → Int32} (h : RV m k R) (hm : m ≤ 24) (hk : k ≤ 4) (hr : RR R row) (z : Int32) : (nxt m R = none ∧ f_X11_goesOn z row (nI k) (nI m) = some (0, z, row)) ∨ ∃ R' row', nxt m R = some R' ∧ RV m k R' ∧ RR R' row' ∧ f_X11_goesOn z row (nI k) (nI m) = some (1, nI (mask R'), row') := by
  have h1 := h.1
  have hkm : k ≤ m := by
    by_cases h0 : k = 0
    · omega
    · have := RV_gap h (i := 0) (by omega); omega
  rcases nxt_cases h with ⟨hn, ha⟩ | ⟨i, hi, hc, hj, hn⟩
  · refine Or.inl ⟨hn, ?_⟩
    unfold f_X11_goesOn L_X11_goesOn_4
    refine loopQ _ (fun o => o = some (0, z, row)) (fun p a => p ≤ k ∧ a = nI p - 1) ?_ FUEL k _ ⟨Nat.le_refl _, rfl⟩ (fuel_lt (by omega))
    rintro p a ⟨hp, rfl⟩
    cases p with
    | zero =>
      refine Or.inl (fun rec => ?_)
      show LB_X11_goesOn_4 _ _ _ _ rec (nI 0 - 1) = _
      unfold LB_X11_goesOn_4
      rw [if_pos (show nI 0 - (1 : Int32) < 0 by decide)]
      unfold B_X11_goesOn_28
      dsimp only
      rw [if_neg (show ¬ (0 : Int32) ≤ nI 0 - 1 by decide)]
    | succ p =>
      refine Or.inr ⟨p, _, by omega, ⟨by omega, rfl⟩, fun rec => ?_⟩
      show LB_X11_goesOn_4 _ _ _ _ rec (nI (p + 1) - 1) = _
      unfold LB_X11_goesOn_4
      have := ha p (by omega)
      have hg := RV_gap h (i := p) (by omega)
      rw [show nI (p + 1) - (1 : Int32) = nI p from nI_pred p, if_neg (nI_pos (by omega)), ob_t (inb_nI (by omega) (by decide)), pk_sub hkm, nI_add, nI_clamp (by omega), hr p (by omega), if_pos (by congr 1; omega), Int32.sub_eq_add_neg]
  · refine Or.inr ?_
    obtain ⟨row', er, hr'⟩ := raiM h hm hk hi hc hr
    refine ⟨_, row', hn, RV_rai h hi hc, hr', ?_⟩
    unfold f_X11_goesOn L_X11_goesOn_4
    refine loopQ _ (fun o => o = some (1, nI (mask (rai R i)), row')) (fun p a => i < p ∧ p ≤ k ∧ a = nI p - 1) ?_ FUEL k _ ⟨by omega, Nat.le_refl _, rfl⟩ (fuel_lt (by omega))
    rintro p a ⟨hip, hp, rfl⟩
    obtain ⟨p, rfl⟩ : ∃ q, p = q + 1 := ⟨p - 1, by omega⟩
    have hg := RV_gap h (i := p) (by omega)
    by_cases e : p = i
    · subst e
      refine Or.inl (fun rec => ?_)
      show LB_X11_goesOn_4 _ _ _ _ rec (nI (p + 1) - 1) = _
      unfold LB_X11_goesOn_4
      have ii : inb (nI p) 5 = true := inb_nI (by omega) (by decide)
      rw [show nI (p + 1) - (1 : Int32) = nI p from nI_pred p, if_neg (nI_pos (by omega)), ob_t ii, pk_sub hkm, nI_add, nI_clamp (by omega), hr p (by omega), if_neg (fun z => by have := (nI_eq (by omega) (by omega)).mp z; omega)]
      unfold B_X11_goesOn_28
      dsimp only
      rw [if_pos (nI_pos' (by omega)), ob_t ii, ob_t ii, nI_clamp (by omega), hr p (by omega), nI_1, nI_1]
      exact er
    · refine Or.inr ⟨p, _, by omega, ⟨by omega, by omega, rfl⟩, fun rec => ?_⟩
      show LB_X11_goesOn_4 _ _ _ _ rec (nI (p + 1) - 1) = _
      unfold LB_X11_goesOn_4
      have := hj p (by omega) (by omega)
      rw [show nI (p + 1) - (1 : Int32) = nI p from nI_pred p, if_neg (nI_pos (by omega)), ob_t (inb_nI (by omega) (by decide)), pk_sub hkm, nI_add, nI_clamp (by omega), hr p (by omega), if_pos (by congr 1; omega), Int32.sub_eq_add_neg]
