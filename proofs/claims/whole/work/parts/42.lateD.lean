theorem dgt_mono {x : Nat → Nat} (k : Nat) : ∀ m, dgt x k ≤ dgt x (k + m)
  | 0 => Nat.le_refl _
  | m + 1 => by
    have ih := dgt_mono (x := x) k m
    show _ ≤ dgt x (k + m) + x (k + m) * p61 (k + m)
    omega
theorem dgt_rest {x : Nat → Nat} {M i : Nat} (hM : M ≤ 5) (hi : i < M) (hx : ∀ j, j < M → x j ≤ 60) : dgt x (i + 1) ≤ dgt x M ∧ dgt x M < dgt x (i + 1) + p61 i := by
  have h1 := dgt_mono (x := x) (i + 1) (M - (i + 1))
  have h2 := dgt_lt (x := x) (i + 1) (M - (i + 1)) (by omega) (fun j hj => hx j (by omega))
  rw [show i + 1 + (M - (i + 1)) = M by omega] at h1 h2
  have h3 : 0 < 61 ^ (5 - M) := Nat.pow_pos (by decide)
  have h4 : p61 i = 61 ^ (5 - (i + 1)) := by unfold p61; congr 1; omega
  rw [h4]
  exact ⟨h1, by omega⟩
theorem dgt_dvd {x : Nat → Nat} {i : Nat} (hi : i ≤ 4) : ∀ k, k ≤ i → ∃ a, dgt x k = a * (61 * p61 i)
  | 0, _ => ⟨0, by rw [Nat.zero_mul]; rfl⟩
  | k + 1, hk => by
    obtain ⟨a, ha⟩ := dgt_dvd (x := x) hi k (by omega)
    have e : p61 k = 61 ^ (i - (k + 1)) * (61 * p61 i) := by
      unfold p61
      rw [show 61 * 61 ^ (4 - i) = 61 ^ (4 - i + 1) by rw [Nat.pow_succ, Nat.mul_comm], ← Nat.pow_add]
      congr 1; omega
    refine ⟨a + x k * 61 ^ (i - (k + 1)), ?_⟩
    show dgt x k + x k * p61 k = _
    rw [ha, e, Nat.add_mul, Nat.mul_assoc]
theorem dgt_get {x : Nat → Nat} {M i : Nat} (hM : M ≤ 5) (hi : i < M) (hx : ∀ j, j < M → x j ≤ 60) : dgt x M / p61 i % 61 = x i := by
  obtain ⟨h1, h2⟩ := dgt_rest hM hi hx
  obtain ⟨a, ha⟩ := dgt_dvd (x := x) (i := i) (by omega) i (Nat.le_refl _)
  have hp : 0 < p61 i := Nat.pow_pos (by decide)
  have e : dgt x (i + 1) = p61 i * (61 * a + x i) := by
    show dgt x i + x i * p61 i = _
    rw [ha, Nat.mul_add, Nat.mul_comm (x i)]
    congr 1
    rw [Nat.mul_comm a, Nat.mul_comm 61 (p61 i), Nat.mul_assoc]
  have hx60 := hx i hi
  have e2 : dgt x M / p61 i = 61 * a + x i := by
    obtain ⟨ρ, hρ⟩ : ∃ ρ, dgt x M = p61 i * (61 * a + x i) + ρ := ⟨dgt x M - dgt x (i + 1), by omega⟩
    rw [hρ, Nat.mul_add_div hp, Nat.div_eq_of_lt (by omega)]
    rfl
  rw [e2]
  omega
theorem lN_divB {a b : Nat} (ha : a < 2 ^ 62) (hb : b < 2 ^ 62) : lN a / lN b = lN (a / b) := by
  apply Int64.toInt_inj.mp
  have hq : a / b ≤ a := Nat.div_le_self a b
  have e1 : (lN a).toInt = (a : Int) := Int64.toInt_ofNat_of_lt (by omega)
  have e2 : (lN b).toInt = (b : Int) := Int64.toInt_ofNat_of_lt (by omega)
  have e3 : (lN (a / b)).toInt = ((a / b : Nat) : Int) := Int64.toInt_ofNat_of_lt (by omega)
  rw [Int64.toInt_div_of_ne_left _ _ (fun z => by
    have := congrArg Int64.toInt z
    rw [e1, show Int64.minValue.toInt = -9223372036854775808 by decide] at this
    omega), e1, e2, e3]
  exact (Int.ofNat_tdiv a b).symm
theorem VA_60 {P : Nat → Nat → Bool} {M n : Nat} {x : Nat → Nat} (hn : n ≤ 60) (h : VA P M n x) : ∀ j, j < M → x j ≤ 60 := fun j hj => by
  have := (h.1 j hj).2
  omega
theorem dgt_61 {x : Nat → Nat} {M : Nat} (hM : M ≤ 5) (hx : ∀ j, j < M → x j ≤ 60) : dgt x M < 844596301 := by
  have h2 := dgt_lt (x := x) 0 M (by omega) (fun j hj => hx j (by omega))
  rw [Nat.zero_add] at h2
  have h3 : 0 < 61 ^ (5 - M) := Nat.pow_pos (by decide)
  have e0 : dgt x 0 = 0 := rfl
  have e5 : (61 : Nat) ^ (5 - 0) = 844596301 := by decide
  omega
theorem sm_le {x : Nat → Nat} {M : Nat} (hM : M ≤ 5) (hx : ∀ j, j < M → x j ≤ 60) : sm x M ≤ 300 := by
  have h1 := sc_le (Wt := fun _ => 1) (x := x) (a := 60) (b := 1) M (fun j hj => ⟨hx j hj, Nat.le_refl _⟩)
  have h2 : M * (60 * 1) ≤ 5 * (60 * 1) := Nat.mul_le_mul_right _ hM
  show sc (fun _ => 1) x M ≤ 300
  omega
theorem together_ok {x : Nat → Nat} {M : Nat} (hM : M ≤ 5) (hx : ∀ j, j < M → x j ≤ 60) : f_X4_together (lN (sc Wl x M)) = some (nI (sm x M)) := by
  have h1 := sc_split x M
  have h2 := dgt_61 hM hx
  have h3 := sm_le hM hx
  unfold f_X4_together
  rw [show (844596301 : Int64) = lN 844596301 from rfl, show (1 : Int64) = lN 1 from rfl, lN_add, lN_sub (by omega), lN_divB (by omega) (by decide), lN_i]
  congr 2
  obtain ⟨ρ, hρ⟩ : ∃ ρ, sc Wl x M + 844596301 - 1 = 844596301 * sm x M + ρ := ⟨844596301 - 1 - dgt x M, by omega⟩
  rw [hρ, Nat.mul_add_div (by decide), Nat.div_eq_of_lt (by omega)]
  rfl
theorem dayOf_ok {x : Nat → Nat} {M i : Nat} (hM : M ≤ 5) (hi : i < M) (hx : ∀ j, j < M → x j ≤ 60) : f_X4_dayOf (lN (sc Wl x M)) (nI i) = some (nI (x i)) := by
  have h1 := sc_split x M
  have h2 := dgt_61 hM hx
  have h3 := sm_le hM hx
  have hp : 0 < p61 i := Nat.pow_pos (by decide)
  have hp2 := p61_le i
  have hne : ¬ lN (p61 i) = 0 := fun z => by
    have e : p61 i = 0 := (lN_inj (a := p61 i) (b := 0) (by omega) (by decide)).mp z
    omega
  unfold f_X4_dayOf
  rw [together_ok hM hx, Option.bind_some, ob_t (inb_nI (by omega) (by decide)), nI_clamp (by omega), dig_p61 (show i < 5 by omega), ob_t (decide_eq_true hne), show (844596301 : Int64) = lN 844596301 from rfl, show (61 : Int64) = lN 61 from rfl, nI_l (by omega), lN_mul, lN_sub (by omega), show sm x M * 844596301 - sc Wl x M = dgt x M by omega, lN_divB (by omega) (by omega)]
  have hq : dgt x M / p61 i ≤ dgt x M := Nat.div_le_self _ _
  rw [lN_divB (by omega) (by decide), lN_mul, lN_sub (by omega), lN_i]
  congr 2
  have := dgt_get hM hi hx
  omega
/-- the most count is of the most days, and of these the first row -/
theorem best_sum {P : Nat → Nat → Bool} {M n : Nat} {x : Nat → Nat} (hM : M ≤ 5) (hn : n ≤ 60) (hx : VA P M n x) (hb : ∀ y, VA P M n y → sc Wl y M ≤ sc Wl x M) : ∀ y, VA P M n y → sm y M ≤ sm x M := by
  intro y hy
  refine Nat.le_of_not_lt (fun z => ?_)
  have h1 := sc_split x M
  have h2 := sc_split y M
  have h3 := dgt_61 hM (VA_60 hn hy)
  have h4 := hb y hy
  have h5 : 844596301 * (sm x M + 1) ≤ 844596301 * sm y M := Nat.mul_le_mul_left _ z
  rw [Nat.mul_add] at h5
  omega
theorem best_first {P : Nat → Nat → Bool} {M n : Nat} {x y : Nat → Nat} {k : Nat} (hM : M ≤ 5) (hn : n ≤ 60) (hk : k < M) (hx : VA P M n x) (hb : ∀ y, VA P M n y → sc Wl y M ≤ sc Wl x M) (hy : VA P M n y) (h1 : ∀ j, j < k → y j = x j) (h2 : sm y M = sm x M) : ¬ y k < x k := by
  intro z
  have a1 := (dgt_rest hM hk (VA_60 hn hx)).1
  have a2 := (dgt_rest hM hk (VA_60 hn hy)).2
  have e1 : dgt x (k + 1) = dgt x k + x k * p61 k := rfl
  have e2 : dgt y (k + 1) = dgt y k + y k * p61 k := rfl
  have e3 : dgt y k = dgt x k := sc_congr k h1
  have e4 : (y k + 1) * p61 k ≤ x k * p61 k := Nat.mul_le_mul_right _ z
  rw [Nat.add_mul] at e4
  have s1 := sc_split x M
  have s2 := sc_split y M
  rw [h2] at s2
  have := hb y hy
  omega
