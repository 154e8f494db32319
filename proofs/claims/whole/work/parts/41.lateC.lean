/-! late: the class's reckoning -/
theorem dayBit {x d : Nat} (hx : x < 2 ^ 62) (hd : d < 62) : (lN x >>> ((nI d).toInt64 &&& (63 : Int64))) &&& (1 : Int64) = lN (if x.testBit d = true then 1 else 0) := by
  rw [sixty d (by omega), show (1 : Int64) = lN (2 ^ 1 - 1) from rfl, sarL 1 (by omega) (by omega) (by decide), Nat.testBit_eq_decide_div_mod_eq]
  congr 1
  rw [show (2 : Nat) ^ 1 = 2 from rfl]
  by_cases c : x / 2 ^ d % 2 = 1
  · rw [c]; rfl
  · rw [if_neg (by rw [decide_eq_false c]; exact Bool.false_ne_true)]; omega
theorem Xp_end {P : Nat → Nat → Bool} {M d p : Nat} {x : Nat → Nat} (hp : p < 2 ^ M) : Xp P M (d + 1) 0 p x ↔ (Xp P M d M p x ∧ P p (d + 1) = true) := by
  have key : (∀ j, j < M → x j ≤ d + 1) → (∀ j, j < M → (p.testBit j = true ↔ x j ≠ 0)) → stX x M (d + 1) = p := fun h1 h2 => by
    refine ext_lt (stX_lt x M (d + 1)) hp (fun j hj => ?_)
    rw [stX_bit, decide_eq_true hj, Bool.true_and]
    by_cases c : x j = 0
    · rw [decide_eq_false (show ¬ (1 ≤ x j ∧ x j ≤ d + 1) by omega)]
      by_cases b : p.testBit j = true
      · exact absurd c ((h2 j hj).mp b)
      · simpa using (Bool.not_eq_true _ ▸ b : p.testBit j = false).symm
    · rw [decide_eq_true (show 1 ≤ x j ∧ x j ≤ d + 1 by have := h1 j hj; omega), (h2 j hj).mpr c]
  constructor
  · rintro ⟨h1, h2, h3⟩
    have h1' : ∀ j, j < M → x j ≤ d + 1 := fun j hj => by
      rcases h1 j hj with z | z
      · exact z
      · omega
    refine ⟨⟨fun j hj => ?_, h2, fun e e1 e2 => h3 e e1 (by omega)⟩, ?_⟩
    · have := h1' j hj
      by_cases c : x j = d + 1
      · exact Or.inr ⟨c, hj⟩
      · exact Or.inl (by omega)
    · have := h3 (d + 1) (by omega) (Nat.le_refl _)
      rw [key h1' h2] at this
      exact this
  · rintro ⟨⟨h1, h2, h3⟩, h4⟩
    have h1' : ∀ j, j < M → x j ≤ d + 1 := fun j hj => by
      rcases h1 j hj with z | z
      · omega
      · omega
    refine ⟨fun j hj => Or.inl (h1' j hj), h2, fun e e1 e2 => ?_⟩
    by_cases c : e = d + 1
    · rw [c, key h1' h2]; exact h4
    · exact h3 e e1 (by omega)
theorem keepPaid_ok {P : Nat → Nat → Bool} {M d : Nat} {s : (Nat → Nat) → Nat} (hM : M ≤ 5) (hd : d + 1 ≤ 60) {paid counts : Nat → Int64} (hP : PdR P 60 (2 ^ M) paid) (h : ∀ p, p < 2 ^ M → MX (Xp P M d M p) s (counts p)) : ∃ c', f_X4_keepPaid paid counts (nI (d + 1)) (nI (2 ^ M)) = some c' ∧ ∀ p, p < 2 ^ M → MX (Xp P M (d + 1) 0 p) s (c' p) := by
  have hp5 : 2 ^ M ≤ 32 := Nat.pow_le_pow_right (n := 2) (j := 5) (by decide) hM
  unfold f_X4_keepPaid L_X4_keepPaid_2
  obtain ⟨c', h1, q⟩ := upK (fun rec t => LB_X4_keepPaid_2 paid (nI (d + 1)) (nI (2 ^ M)) (fun t => B_X4_keepPaid_37 t.2) rec t.1 t.2) (fun t => B_X4_keepPaid_37 t.2) (2 ^ M) (fun k f => (∀ p, p < k → MX (Xp P M (d + 1) 0 p) s (f p)) ∧ ∀ p, k ≤ p → p < 2 ^ M → MX (Xp P M d M p) s (f p)) (by omega) (fun p f hp hI rec => by
      obtain ⟨i1, i2⟩ := hI
      have ip : inb (nI p) 32 = true := inb_nI (by omega) (by decide)
      obtain ⟨acc, a1, a2⟩ := hP p hp
      have hb := a2.2 (d + 1)
      rw [decide_eq_true (show 1 ≤ d + 1 ∧ d + 1 ≤ 60 by omega), Bool.true_and] at hb
      have old := i2 p (Nat.le_refl _) hp
      show ∃ s', _ ∧ LB_X4_keepPaid_2 _ _ _ _ rec (nI p) f = _
      unfold LB_X4_keepPaid_2 B_X4_keepPaid_31
      rw [if_neg (nI_ge hp (by omega)), ob_t ip, ob_t ip, nI_clamp (by omega), a1, dayBit (by have := a2.1; omega) (by omega), hb, nI_1]
      by_cases c : P p (d + 1) = true
      · rw [if_pos c, if_neg (fun z => by have := (lN_inj (by decide) (by decide)).mp (lgc_eq.mp z : lN 1 = lN 0); omega)]
        refine ⟨f, ⟨fun k hk => ?_, fun k k1 k2 => i2 k (by omega) k2⟩, rfl⟩
        by_cases e : k = p
        · rw [e]; exact MX_congr (fun x => by rw [Xp_end hp]; exact ⟨fun z => ⟨z, c⟩, fun z => z.1⟩) old
        · exact i1 k (by omega)
      · rw [if_neg c, if_pos (show lg_cmp (lN 0) (0 : Int64) = 0 from lgc_eq.mpr rfl)]
        refine ⟨vp_updL f p (-1), ⟨fun k hk => ?_, fun k k1 k2 => by rw [pk_uLn (by omega)]; exact i2 k (by omega) k2⟩, rfl⟩
        by_cases e : k = p
        · rw [e, pk_uLs]; exact Or.inl ⟨rfl, fun x hx => c ((Xp_end hp).mp hx).2⟩
        · rw [pk_uLn e]; exact i1 k (by omega)) (fun f _ rec => by
      show LB_X4_keepPaid_2 _ _ _ _ rec (nI (2 ^ M)) f = _
      unfold LB_X4_keepPaid_2
      rw [if_pos (nI_le (Nat.le_refl _) (by omega))]) (j := 0) (s := counts) (Nat.zero_le _) ⟨fun p hp => absurd hp (by omega), fun p _ hp => h p hp⟩
  exact ⟨c', q.trans rfl, h1.1⟩
/-- days of cuts as they may be -/
def VA (P : Nat → Nat → Bool) (M n : Nat) (x : Nat → Nat) : Prop := (∀ j, j < M → 1 ≤ x j ∧ x j ≤ n) ∧ ∀ e, 1 ≤ e → e ≤ n → P (stX x M e) e = true
theorem Xp_VA {P : Nat → Nat → Bool} {M n : Nat} {x : Nat → Nat} : Xp P M n 0 (2 ^ M - 1) x ↔ VA P M n x := by
  constructor
  · rintro ⟨h1, h2, h3⟩
    refine ⟨fun j hj => ?_, h3⟩
    have a := (h2 j hj).mp (by rw [Nat.testBit_two_pow_sub_one, decide_eq_true hj])
    rcases h1 j hj with z | z <;> omega
  · rintro ⟨h1, h3⟩
    refine ⟨fun j hj => Or.inl (h1 j hj).2, fun j hj => ?_, h3⟩
    rw [Nat.testBit_two_pow_sub_one, decide_eq_true hj]
    have := h1 j hj
    exact ⟨fun _ => by omega, fun _ => rfl⟩
theorem reckonL_ok {P : Nat → Nat → Bool} {M n : Nat} {Wt : Nat → Nat} (hM : M ≤ 5) (hn : n ≤ 60) (hW : ∀ j, j < M → Wt j ≤ 844596301) (hdg : ∀ j, j < M → (844596301 : Int64) - dig j = lN (Wt j)) {paid : Nat → Int64} (hP : PdR P 60 (2 ^ M) paid) (counts : Nat → Int64) : ∃ v c', f_X4_reckon counts paid (nI M) (nI n) = some (v, c') ∧ MX (VA P M n) (fun x => sc Wt x M) v := by
  have hp5 : 2 ^ M ≤ 32 := Nat.pow_le_pow_right (n := 2) (j := 5) (by decide) hM
  have hp0 := Nat.two_pow_pos M
  unfold f_X4_reckon L_X4_reckon_14
  rw [ob_t (by decide), shl31 (by omega)]
  obtain ⟨c1, h1, q1⟩ := upK (fun rec t => LB_X4_reckon_14 (nI (2 ^ M)) (fun t => B_X4_reckon_36 t.2 paid (nI M) (nI n) (nI (2 ^ M))) rec t.1 t.2) (fun t => B_X4_reckon_36 t.2 paid (nI M) (nI n) (nI (2 ^ M))) (2 ^ M) (fun k f => 1 ≤ k ∧ f 0 = 0 ∧ ∀ p, 1 ≤ p → p < k → f p = -1) (by omega) (fun p f hp hI rec => ⟨vp_updL f p (-1), ⟨by omega, by rw [pk_uLn (by omega)]; exact hI.2.1, fun k k1 k2 => by
      by_cases c : k = p
      · rw [c, pk_uLs]
      · rw [pk_uLn c]; exact hI.2.2 k k1 (by omega)⟩, by
      show LB_X4_reckon_14 _ _ rec (nI p) f = _
      unfold LB_X4_reckon_14
      rw [if_neg (nI_ge hp (by omega)), ob_t (inb_nI (by omega) (by decide)), nI_clamp (by omega), nI_1]⟩) (fun f _ rec => by
      show LB_X4_reckon_14 _ _ rec (nI (2 ^ M)) f = _
      unfold LB_X4_reckon_14
      rw [if_pos (nI_le (Nat.le_refl _) (by omega))]) (j := 1) (s := vp_updL counts (0 : Int32).toNatClampNeg (0 : Int64)) (by omega) ⟨by omega, pk_uLs, fun p p1 p2 => absurd p2 (by omega)⟩
  refine (Exists.imp fun v => Exists.imp fun c' => And.imp_left fun z => q1.trans z) ?_
  show ∃ v c', B_X4_reckon_36 c1 paid (nI M) (nI n) (nI (2 ^ M)) = _ ∧ _
  unfold B_X4_reckon_36 L_X4_reckon_39
  have start : ∀ p, p < 2 ^ M → MX (Xp P M 0 0 p) (fun x => sc Wt x M) (c1 p) := fun p hp => by
    by_cases c : p = 0
    · rw [c, h1.2.1]
      have s0 : ∀ x, (∀ j, j < M → x j = 0) → sc Wt x M = 0 := fun x hx => by
        have : ∀ m, m ≤ M → sc Wt x m = 0 := fun m => by
          induction m with
          | zero => intro _; rfl
          | succ m ih =>
            intro hm
            show sc Wt x m + x m * Wt m = 0
            rw [ih (by omega), hx m (by omega), Nat.zero_mul]
        exact this M (Nat.le_refl _)
      refine Or.inr ⟨fun _ => 0, ⟨fun j _ => Or.inl (Nat.le_refl _), fun j _ => ?_, fun e e1 e2 => absurd e2 (by omega)⟩, ?_, fun y hy => ?_⟩
      · rw [Nat.zero_testBit]; exact ⟨fun z => absurd z Bool.false_ne_true, fun z => absurd rfl z⟩
      · show (0 : Int64) = lN (sc Wt (fun _ => 0) M)
        rw [s0 _ (fun j _ => rfl)]; rfl
      · show sc Wt y M ≤ _
        rw [s0 y (fun j hj => by rcases hy.1 j hj with z | z <;> omega)]
        exact Nat.zero_le _
    · refine Or.inl ⟨h1.2.2 p (by omega) hp, fun x hx => c ?_⟩
      refine ext_lt hp hp0 (fun j hj => ?_)
      rw [Nat.zero_testBit]
      by_cases b : p.testBit j = true
      · have := (hx.2.1 j hj).mp b
        rcases hx.1 j hj with z | z <;> omega
      · simpa using b
  refine loopR _ (fun o => ∃ v c', o = some (v, c') ∧ MX (VA P M n) (fun x => sc Wt x M) v) (fun m t => ∃ d f, t = (nI (d + 1), f) ∧ d ≤ n ∧ m = n - d ∧ ∀ p, p < 2 ^ M → MX (Xp P M d 0 p) (fun x => sc Wt x M) (f p)) ?_ FUEL n _ ⟨0, c1, rfl, by omega, rfl, start⟩ (fuel_lt (by omega))
  rintro m t ⟨d, f, rfl, hd, rfl, hI⟩ rec
  by_cases c : d = n
  · subst c
    refine Or.inl ⟨f (2 ^ M - 1), f, ?_, MX_congr (fun x => Xp_VA) (hI _ (by omega))⟩
    show LB_X4_reckon_39 _ _ _ _ _ rec (nI (d + 1)) f = _
    unfold LB_X4_reckon_39
    rw [if_pos (nI_lt (by omega) (by omega))]
    show B_X4_reckon_82 _ _ = _
    unfold B_X4_reckon_82
    have em : nI (2 ^ M) - (1 : Int32) = nI (2 ^ M - 1) := pk_sub (b := 1) (by omega)
    rw [em, ob_t (inb_nI (by omega) (by decide)), nI_clamp (by omega)]
  · right
    obtain ⟨f1, h2, q2⟩ := upK (fun rec' t => LB_X4_reckon_48 (nI M) (nI (2 ^ M)) (nI (d + 1)) (fun t => B_X4_reckon_69 (fun t => B_X4_reckon_82 t.2 (nI (2 ^ M))) rec t.2 paid (nI (2 ^ M)) (nI (d + 1))) rec' t.1 t.2) (fun t => B_X4_reckon_69 (fun t => B_X4_reckon_82 t.2 (nI (2 ^ M))) rec t.2 paid (nI (2 ^ M)) (nI (d + 1))) M (fun i f => ∀ p, p < 2 ^ M → MX (Xp P M d i p) (fun x => sc Wt x M) (f p)) (by omega) (fun i f hi hI rec' => by
        obtain ⟨f', e, h'⟩ := makeCut_ok hM (show d + 1 ≤ 60 by omega) hi hW hdg hI
        refine ⟨f', h', ?_⟩
        show LB_X4_reckon_48 _ _ _ _ rec' (nI i) f = _
        unfold LB_X4_reckon_48
        rw [if_neg (nI_ge hi (by omega)), e, Option.bind_some, nI_1]) (fun f _ rec' => by
        show LB_X4_reckon_48 _ _ _ _ rec' (nI M) f = _
        unfold LB_X4_reckon_48
        rw [if_pos (nI_le (Nat.le_refl _) (by omega))]) (j := 0) (s := f) (Nat.zero_le _) hI
    obtain ⟨f2, e3, h3⟩ := keepPaid_ok hM (show d + 1 ≤ 60 by omega) hP h2
    refine ⟨n - (d + 1), (nI (d + 1 + 1), f2), by omega, ⟨d + 1, f2, rfl, by omega, rfl, h3⟩, ?_⟩
    show LB_X4_reckon_39 _ _ _ _ _ rec (nI (d + 1)) f = _
    unfold LB_X4_reckon_39 L_X4_reckon_48
    rw [if_neg (nI_nlt (by omega) (by omega))]
    refine q2.trans ?_
    show B_X4_reckon_69 _ rec f1 paid (nI (2 ^ M)) (nI (d + 1)) = _
    unfold B_X4_reckon_69
    rw [e3, Option.bind_some, nI_1]
/-! late: what a count says -/
def p61 (j : Nat) : Nat := 61 ^ (4 - j)
def Wl (j : Nat) : Nat := 844596301 - p61 j
theorem p61_le (j : Nat) : p61 j ≤ 13845841 := Nat.pow_le_pow_right (n := 61) (j := 4) (by decide) (by omega)
theorem Wl_le (j : Nat) : Wl j ≤ 844596301 := Nat.sub_le _ _
theorem dig_p61 {j : Nat} (h : j < 5) : dig j = lN (p61 j) := by
  revert j
  decide
theorem dig_Wl {j : Nat} (h : j < 5) : (844596301 : Int64) - dig j = lN (Wl j) := by
  rw [dig_p61 h, show (844596301 : Int64) = lN 844596301 from rfl, lN_sub (by have := p61_le j; omega)]
  rfl
/-- Σ x, and the number that its days are, to the base 61 -/
def sm (x : Nat → Nat) (m : Nat) : Nat := sc (fun _ => 1) x m
def dgt (x : Nat → Nat) (m : Nat) : Nat := sc p61 x m
theorem sc_split (x : Nat → Nat) : ∀ m, sc Wl x m + dgt x m = 844596301 * sm x m
  | 0 => rfl
  | m + 1 => by
    have ih := sc_split x m
    have hp := p61_le m
    have e : x m * Wl m + x m * p61 m = 844596301 * x m := by
      rw [← Nat.mul_add, show Wl m + p61 m = 844596301 by unfold Wl; omega, Nat.mul_comm]
    show sc Wl x m + x m * Wl m + (dgt x m + x m * p61 m) = 844596301 * (sm x m + x m * 1)
    rw [Nat.mul_add, Nat.mul_one]
    omega
theorem dgt_lt {x : Nat → Nat} (k : Nat) : ∀ m, k + m ≤ 5 → (∀ j, j < k + m → x j ≤ 60) → dgt x (k + m) + 61 ^ (5 - (k + m)) ≤ dgt x k + 61 ^ (5 - k)
  | 0, _, _ => Nat.le_refl _
  | m + 1, hm, hx => by
    have ih := dgt_lt (x := x) k m (by omega) (fun j hj => hx j (by omega))
    have h1 := hx (k + m) (by omega)
    have e : 61 ^ (5 - (k + m)) = 61 * 61 ^ (5 - (k + (m + 1))) := by
      rw [show 5 - (k + m) = 5 - (k + (m + 1)) + 1 by omega, Nat.pow_succ, Nat.mul_comm]
    have e2 : p61 (k + m) = 61 ^ (5 - (k + (m + 1))) := by unfold p61; congr 1; omega
    have h2 : x (k + m) * p61 (k + m) ≤ 60 * p61 (k + m) := Nat.mul_le_mul_right _ h1
    show dgt x (k + m) + x (k + m) * p61 (k + m) + _ ≤ _
    rw [e2] at h2 ⊢
    omega
