/-! late: the reference's table -/
theorem i32_add {a b : Int32} {x y : Int} (ha : a.toInt = x) (hb : b.toInt = y) (h1 : -2147483648 ≤ x + y) (h2 : x + y < 2147483648) : (a + b).toInt = x + y := by
  rw [Int32.toInt_add, ha, hb]
  exact Int.bmod_eq_of_le_mul_two (by show -((2 ^ 32 : Nat) : Int) ≤ _; omega) (by show _ < ((2 ^ 32 : Nat) : Int); omega)
theorem andnot_n {T S : Nat} : nI T &&& (nI S ^^^ (-1 : Int32)) = nI (T ^^^ (T &&& S)) := by
  rw [← Int32.toBitVec_inj, Int32.toBitVec_and, Int32.toBitVec_xor, bv_nI, bv_nI, bv_nI, show (-1 : Int32).toBitVec = BitVec.allOnes 32 by decide]
  apply BitVec.eq_of_getLsbD_eq
  intro i hi
  simp only [BitVec.getLsbD_and, BitVec.getLsbD_xor, BitVec.getLsbD_ofNat, BitVec.getLsbD_allOnes, decide_eq_true hi, Nat.testBit_xor, Nat.testBit_and]
  cases T.testBit i <;> cases S.testBit i <;> simp
/-- T less S -/
def dfN (T S : Nat) : Nat := T ^^^ (T &&& S)
theorem dfN_bit (T S i : Nat) : (dfN T S).testBit i = (T.testBit i && !S.testBit i) := by
  unfold dfN
  rw [Nat.testBit_xor, Nat.testBit_and]
  cases T.testBit i <;> cases S.testBit i <;> rfl
theorem dfN_lt {T S M : Nat} (h : T < 2 ^ M) : dfN T S < 2 ^ M := Nat.xor_lt_two_pow h (Nat.lt_of_le_of_lt Nat.and_le_left h)
def MY (P : Nat → Nat → Bool) (M : Nat) (fx : Nat → Nat) (S T day : Nat) : Prop := (sub S T ∧ P T day = true) ∧ ∀ i, i < M → (fx i = 0 ∨ ((dfN T S).testBit i = true ↔ fx i = day))
noncomputable def cnd (P : Nat → Nat → Bool) (M : Nat) (fx : Nat → Nat) (S day : Nat) (nx : Nat → Int) (T : Nat) : Int := @ite Int (MY P M fx S T day) (Classical.propDecidable _) ((day : Int) * (pc (dfN T S) : Int) + nx T) (-1000000)
def mxR (f : Nat → Int) (a : Nat) : Nat → Int
  | 0 => -1000000
  | m + 1 => if f (a + m) ≤ mxR f a m then mxR f a m else f (a + m)
noncomputable def lv (P : Nat → Nat → Bool) (M n : Nat) (fx : Nat → Nat) : Nat → Nat → Int
  | 0, S => if S = 2 ^ M - 1 then 0 else -1000000
  | k + 1, S => mxR (cnd P M fx S (n - k) (lv P M n fx k)) S (2 ^ M - S)
theorem mxR_bd {f : Nat → Int} {a : Nat} {B : Int} (hB : -1000000 ≤ B) : ∀ m, (∀ i, i < m → f (a + i) ≤ B) → -1000000 ≤ mxR f a m ∧ mxR f a m ≤ B
  | 0, _ => ⟨Int.le_refl _, hB⟩
  | m + 1, h => by
    obtain ⟨h1, h2⟩ := mxR_bd (f := f) (a := a) hB m (fun i hi => h i (by omega))
    have h3 := h m (by omega)
    show -1000000 ≤ (if f (a + m) ≤ mxR f a m then mxR f a m else f (a + m)) ∧ (if f (a + m) ≤ mxR f a m then mxR f a m else f (a + m)) ≤ B
    split <;> omega
theorem lv_bd {P : Nat → Nat → Bool} {M n : Nat} {fx : Nat → Nat} (hn : n ≤ 60) : ∀ k S, -1000000 ≤ lv P M n fx k S ∧ lv P M n fx k S ≤ 660 * (k : Int)
  | 0, S => by
    show -1000000 ≤ (if S = 2 ^ M - 1 then (0 : Int) else -1000000) ∧ (if S = 2 ^ M - 1 then (0 : Int) else -1000000) ≤ 660 * ((0 : Nat) : Int)
    split <;> omega
  | k + 1, S => by
    refine mxR_bd (by omega) _ (fun i _ => ?_)
    have ih := lv_bd (P := P) (M := M) (n := n) (fx := fx) hn k (S + i)
    unfold cnd
    by_cases c : MY P M fx S (S + i) (n - k)
    · rw [if_pos c]
      have h1 := pc_le (dfN (S + i) S)
      have h2 : (n - k) * pc (dfN (S + i) S) ≤ 60 * 11 := Nat.mul_le_mul (by omega) h1
      have h3 : ((n - k : Nat) : Int) * ((pc (dfN (S + i) S) : Nat) : Int) ≤ 660 := by
        rw [← Int.natCast_mul]
        omega
      omega
    · rw [if_neg c]; omega
theorem may_ok {P : Nat → Nat → Bool} {M S T day : Nat} {fx : Nat → Nat} {fixed : Nat → Int32} (hM : M ≤ 5) (hS : S < 2 ^ M) (hT : T < 2 ^ M) (hday : day < 2 ^ 20) (hf : ∀ i, i < M → fixed i = nI (fx i) ∧ fx i < 2 ^ 20) {p0 : Prop} {x0 : Int32} (h0 : tf x0 p0) (kx : Int32 × Int32 → Option (Int32 × (Nat → Int32))) : ∃ z y, tf z (p0 ∧ ∀ i, i < M → (fx i = 0 ∨ ((dfN T S).testBit i = true ↔ fx i = day))) ∧ L_X11_findLate_115 fixed (nI M) (nI day) (nI S) (nI T) kx FUEL (x0, 0) = kx (z, y) := by
  have hp5 : 2 ^ M ≤ 32 := Nat.pow_le_pow_right (n := 2) (j := 5) (by decide) hM
  unfold L_X11_findLate_115
  refine loopR _ (fun o => ∃ z y, tf z (p0 ∧ ∀ i, i < M → (fx i = 0 ∨ ((dfN T S).testBit i = true ↔ fx i = day))) ∧ o = kx (z, y)) (fun m a => ∃ i z, a = (z, nI i) ∧ i ≤ M ∧ m = M - i ∧ tf z (p0 ∧ ∀ j, j < i → (fx j = 0 ∨ ((dfN T S).testBit j = true ↔ fx j = day)))) ?_ FUEL M _ ⟨0, x0, rfl, Nat.zero_le _, rfl, tf_congr ⟨fun h => ⟨h, fun j hj => absurd hj (by omega)⟩, fun h => h.1⟩ h0⟩ (fuel_lt (by omega))
  rintro m a ⟨i, z, rfl, hi, rfl, hz⟩ rec
  by_cases e : i = M
  · subst e
    refine Or.inl ⟨z, nI i, hz, ?_⟩
    show LB_X11_findLate_115 _ _ _ _ _ _ rec z (nI i) = _
    unfold LB_X11_findLate_115
    rw [if_pos (nI_le (Nat.le_refl _) (by omega))]
  · have hi2 : i < M := by omega
    have hfi := hf i hi2
    have ii : inb (nI i) 5 = true := inb_nI (by omega) (by decide)
    rcases hz with ⟨rfl, h1⟩ | ⟨rfl, h1⟩
    · right
      have ext : ∀ y : Int32, tf y (fx i = 0 ∨ ((dfN T S).testBit i = true ↔ fx i = day)) → LB_X11_findLate_115 fixed (nI M) (nI day) (nI S) (nI T) kx rec 1 (nI i) = rec (y, nI (i + 1)) → ∃ m' b, m' < M - i ∧ (∃ i' z, b = (z, nI i') ∧ i' ≤ M ∧ m' = M - i' ∧ tf z (p0 ∧ ∀ j, j < i' → (fx j = 0 ∨ ((dfN T S).testBit j = true ↔ fx j = day)))) ∧ LB_X11_findLate_115 fixed (nI M) (nI day) (nI S) (nI T) kx rec 1 (nI i) = rec b := fun y hy ey => by
        refine ⟨M - (i + 1), _, by omega, ⟨i + 1, y, rfl, by omega, rfl, ?_⟩, ey⟩
        refine tf_congr ⟨fun h => ⟨h1.1, fun j hj => ?_⟩, fun h => h.2 i (by omega)⟩ hy
        by_cases c : j = i
        · rw [c]; exact h
        · exact h1.2 j (by omega)
      have hdl := dfN_lt (S := S) hT
      have hcode : LB_X11_findLate_115 fixed (nI M) (nI day) (nI S) (nI T) kx rec 1 (nI i) = if nI (fx i) = 0 then rec (1, nI (i + 1)) else (if nI (fx i) = nI day then (if (if (dfN T S).testBit i = true then (1 : Int32) else 0) = 1 then rec (1, nI (i + 1)) else rec (0, nI (i + 1))) else (if (if (dfN T S).testBit i = true then (1 : Int32) else 0) = 0 then rec (1, nI (i + 1)) else rec (0, nI (i + 1)))) := by
        unfold LB_X11_findLate_115 B_X11_findLate_165 B_X11_findLate_168 B_X11_findLate_173
        rw [if_neg (nI_ge hi2 (by omega)), if_neg n10, ob_t ii, nI_clamp (by omega), hfi.1, andnot_n, show T ^^^ (T &&& S) = dfN T S from rfl, has_ok (by omega) (by omega), Option.bind_some, ob_t ii, nI_1]
      by_cases c0 : fx i = 0
      · refine ext 1 (Or.inl ⟨rfl, Or.inl c0⟩) (hcode.trans ?_)
        rw [if_pos (by rw [c0]; rfl)]
      · have n0 : ¬ nI (fx i) = 0 := nI_nz (by omega) c0
        rw [if_neg n0] at hcode
        by_cases c1 : fx i = day
        · rw [if_pos (by rw [c1])] at hcode
          by_cases b : (dfN T S).testBit i = true
          · rw [if_pos b, if_pos rfl] at hcode
            exact ext 1 (Or.inl ⟨rfl, Or.inr ⟨fun _ => c1, fun _ => b⟩⟩) hcode
          · rw [if_neg b, if_neg (by decide)] at hcode
            refine ext 0 (Or.inr ⟨rfl, fun h => ?_⟩) hcode
            rcases h with h | h
            · exact c0 h
            · exact b (h.mpr c1)
        · rw [if_neg (fun z => c1 ((nI_eq (by omega) (by omega)).mp z))] at hcode
          by_cases b : (dfN T S).testBit i = true
          · rw [if_pos b, if_neg n10] at hcode
            refine ext 0 (Or.inr ⟨rfl, fun h => ?_⟩) hcode
            rcases h with h | h
            · exact c0 h
            · exact c1 (h.mp b)
          · rw [if_neg b, if_pos rfl] at hcode
            exact ext 1 (Or.inl ⟨rfl, Or.inr ⟨fun h => absurd h b, fun h => absurd h c1⟩⟩) hcode
    · refine Or.inl ⟨0, nI i, Or.inr ⟨rfl, fun h => h1 ⟨h.1, fun j hj => h.2 j (by omega)⟩⟩, ?_⟩
      show LB_X11_findLate_115 _ _ _ _ _ _ rec 0 (nI i) = _
      unfold LB_X11_findLate_115
      rw [if_neg (nI_ge hi2 (by omega)), if_pos rfl]
theorem lateCell {P : Nat → Nat → Bool} {M n S k : Nat} {fx : Nat → Nat} {fixed lates : Nat → Int32} {paid : Nat → Int64} (hM : M ≤ 5) (hn : n ≤ 60) (hk : k < n) (hS : S < 2 ^ M) (hP : PdR P n (2 ^ M) paid) (hf : ∀ i, i < M → fixed i = nI (fx i) ∧ fx i < 2 ^ 20) (hl : ∀ T, T < 2 ^ M → (lates (32 * (n - k + 1) + T)).toInt = lv P M n fx k T) (kx : Int32 × Int32 → Option (Int32 × (Nat → Int32))) : ∃ v y, v.toInt = lv P M n fx (k + 1) S ∧ L_X11_findLate_72 lates paid fixed (nI M) (nI (2 ^ M - 1)) (nI (n - k)) (nI S) kx FUEL (-1000000, nI S) = kx (v, y) := by
  have hp5 : 2 ^ M ≤ 32 := Nat.pow_le_pow_right (n := 2) (j := 5) (by decide) hM
  have hp0 := Nat.two_pow_pos M
  unfold L_X11_findLate_72
  refine loopR _ (fun o => ∃ v y, v.toInt = lv P M n fx (k + 1) S ∧ o = kx (v, y)) (fun m a => ∃ T v, a = (v, nI T) ∧ S ≤ T ∧ T ≤ 2 ^ M ∧ m = 2 ^ M - T ∧ v.toInt = mxR (cnd P M fx S (n - k) (lv P M n fx k)) S (T - S)) ?_ FUEL (2 ^ M - S) _ ⟨S, _, rfl, Nat.le_refl _, by omega, rfl, by rw [Nat.sub_self]; rfl⟩ (fuel_lt (by omega))
  rintro m a ⟨T, v, rfl, hST, hT, rfl, hv⟩ rec
  by_cases e : T = 2 ^ M
  · subst e
    refine Or.inl ⟨v, nI (2 ^ M), hv, ?_⟩
    show LB_X11_findLate_72 _ _ _ _ _ _ _ _ rec v (nI (2 ^ M)) = _
    unfold LB_X11_findLate_72
    rw [if_pos (nI_lt (by omega) (by omega))]
  · right
    have hT2 : T < 2 ^ M := by omega
    obtain ⟨acc, a1, a2⟩ := hP T hT2
    have hb := a2.2 (n - k)
    rw [decide_eq_true (show 1 ≤ n - k ∧ n - k ≤ n by omega), Bool.true_and] at hb
    have hbd := mxR_bd (f := cnd P M fx S (n - k) (lv P M n fx k)) (a := S) (B := 660 * ((k + 1 : Nat) : Int)) (by omega) (T - S) (fun i _ => by
      have ih := lv_bd (P := P) (M := M) (n := n) (fx := fx) hn k (S + i)
      unfold cnd
      by_cases c : MY P M fx S (S + i) (n - k)
      · rw [if_pos c]
        have h1 := pc_le (dfN (S + i) S)
        have h2 : (n - k) * pc (dfN (S + i) S) ≤ 60 * 11 := Nat.mul_le_mul (by omega) h1
        have h3 : ((n - k : Nat) : Int) * ((pc (dfN (S + i) S) : Nat) : Int) ≤ 660 := by
          rw [← Int.natCast_mul]
          omega
        omega
      · rw [if_neg c]; omega)
    have emx : mxR (cnd P M fx S (n - k) (lv P M n fx k)) S (T + 1 - S) = if cnd P M fx S (n - k) (lv P M n fx k) T ≤ mxR (cnd P M fx S (n - k) (lv P M n fx k)) S (T - S) then mxR (cnd P M fx S (n - k) (lv P M n fx k)) S (T - S) else cnd P M fx S (n - k) (lv P M n fx k) T := by
      rw [show T + 1 - S = T - S + 1 by omega]
      show (if cnd P M fx S (n - k) (lv P M n fx k) (S + (T - S)) ≤ _ then _ else cnd P M fx S (n - k) (lv P M n fx k) (S + (T - S))) = _
      rw [show S + (T - S) = T by omega]
    have fin : ∀ u : Int32, u.toInt = cnd P M fx S (n - k) (lv P M n fx k) T → LB_X11_findLate_72 lates paid fixed (nI M) (nI (2 ^ M - 1)) (nI (n - k)) (nI S) kx rec v (nI T) = B_X11_findLate_220 kx rec v (nI T) u → ∃ m' b, m' < 2 ^ M - T ∧ (∃ T' v', b = (v', nI T') ∧ S ≤ T' ∧ T' ≤ 2 ^ M ∧ m' = 2 ^ M - T' ∧ v'.toInt = mxR (cnd P M fx S (n - k) (lv P M n fx k)) S (T' - S)) ∧ LB_X11_findLate_72 lates paid fixed (nI M) (nI (2 ^ M - 1)) (nI (n - k)) (nI S) kx rec v (nI T) = rec b := fun u hu eu => by
      rw [eu]
      unfold B_X11_findLate_220 B_X11_findLate_236
      rw [nI_1]
      by_cases c : u.toInt ≤ v.toInt
      · rw [if_pos (Int32.le_iff_toInt_le.mpr c)]
        refine ⟨2 ^ M - (T + 1), _, by omega, ⟨T + 1, v, rfl, by omega, by omega, rfl, ?_⟩, rfl⟩
        rw [emx, ← hu, ← hv, if_pos c]
      · rw [if_neg (fun z => c (Int32.le_iff_toInt_le.mp z))]
        refine ⟨2 ^ M - (T + 1), _, by omega, ⟨T + 1, u, rfl, by omega, by omega, rfl, ?_⟩, rfl⟩
        rw [emx, ← hu, ← hv, if_neg c]
    have body : ∀ (p0 : Prop) (x0 : Int32), tf x0 p0 → (p0 ↔ (sub S T ∧ P T (n - k) = true)) → LB_X11_findLate_72 lates paid fixed (nI M) (nI (2 ^ M - 1)) (nI (n - k)) (nI S) kx rec v (nI T) = B_X11_findLate_110 kx rec lates fixed (nI M) (nI (n - k)) (nI S) v (nI T) x0 → ∃ m' b, m' < 2 ^ M - T ∧ (∃ T' v', b = (v', nI T') ∧ S ≤ T' ∧ T' ≤ 2 ^ M ∧ m' = 2 ^ M - T' ∧ v'.toInt = mxR (cnd P M fx S (n - k) (lv P M n fx k)) S (T' - S)) ∧ LB_X11_findLate_72 lates paid fixed (nI M) (nI (2 ^ M - 1)) (nI (n - k)) (nI S) kx rec v (nI T) = rec b := fun p0 x0 h0 hiff hcode => by
      obtain ⟨z, y, hz, ez⟩ := may_ok (P := P) (S := S) (T := T) (day := n - k) hM hS hT2 (by omega) hf h0 (fun t => B_X11_findLate_181 kx rec lates (nI (n - k)) (nI S) v (nI T) t.1)
      have hc2 : LB_X11_findLate_72 lates paid fixed (nI M) (nI (2 ^ M - 1)) (nI (n - k)) (nI S) kx rec v (nI T) = B_X11_findLate_181 kx rec lates (nI (n - k)) (nI S) v (nI T) z := by
        rw [hcode]
        unfold B_X11_findLate_110
        exact ez
      unfold B_X11_findLate_181 at hc2
      have hlb := lv_bd (P := P) (M := M) (n := n) (fx := fx) hn k T
      have hdl := dfN_lt (S := S) hT2
      rcases hz with ⟨rfl, hmy⟩ | ⟨rfl, hmy⟩
      · have hMY : MY P M fx S T (n - k) := ⟨hiff.mp hmy.1, hmy.2⟩
        have h1 := pc_le (dfN T S)
        have h2 : (n - k) * pc (dfN T S) ≤ 60 * 11 := Nat.mul_le_mul (by omega) h1
        have e5 : (32 : Int32) * nI (n - k + 1) + nI T = nI (32 * (n - k + 1) + T) := by
          rw [show (32 : Int32) * nI (n - k + 1) = nI (32 * (n - k + 1)) from pk_mul 32 _, nI_add]
        rw [if_neg n10, andnot_n, show T ^^^ (T &&& S) = dfN T S from rfl, ones_gen (by omega), Option.bind_some, nI_1, e5, ob_t (inb_nI (by omega) (by decide)), nI_clamp (by omega), pk_mul] at hc2
        refine fin _ ?_ hc2
        unfold cnd
        rw [if_pos hMY]
        rw [← Int.natCast_mul]
        exact i32_add (nI_toInt (by omega)) (hl T hT2) (by omega) (by omega)
      · rw [if_pos rfl] at hc2
        refine fin _ ?_ hc2
        unfold cnd
        rw [if_neg (fun h => hmy ⟨hiff.mpr h.1, h.2⟩)]
        decide
    have hsub : (nI S &&& (nI T ^^^ (-1 : Int32)) = 0) ↔ sub S T := subC (by omega)
    show ∃ m' b, m' < 2 ^ M - T ∧ _ ∧ LB_X11_findLate_72 lates paid fixed (nI M) (nI (2 ^ M - 1)) (nI (n - k)) (nI S) kx rec v (nI T) = rec b
    have nlt : ¬ nI (2 ^ M - 1) < nI T := nI_nlt (by omega) (by omega)
    by_cases c1 : sub S T
    · by_cases c2 : P T (n - k) = true
      · refine body True 1 (Or.inl ⟨rfl, trivial⟩) ⟨fun _ => ⟨c1, c2⟩, fun _ => trivial⟩ ?_
        unfold LB_X11_findLate_72
        rw [if_neg nlt, if_pos (hsub.mpr c1), ob_t (inb_nI (by omega) (by decide)), nI_clamp (by omega), a1, dayBit (by have := a2.1; omega) (by omega), hb, if_pos c2, if_pos (show lg_cmp (lN 1) (1 : Int64) = 0 from lgc_eq.mpr rfl)]
      · refine body False 0 (Or.inr ⟨rfl, fun h => h⟩) ⟨fun h => h.elim, fun h => c2 h.2⟩ ?_
        unfold LB_X11_findLate_72 B_X11_findLate_109
        rw [if_neg nlt, if_pos (hsub.mpr c1), ob_t (inb_nI (by omega) (by decide)), nI_clamp (by omega), a1, dayBit (by have := a2.1; omega) (by omega), hb, if_neg c2, if_neg (fun z => by have e9 : (0 : Nat) = 1 := (lN_inj (by decide) (by decide)).mp (lgc_eq.mp z); omega)]
    · refine body False 0 (Or.inr ⟨rfl, fun h => h⟩) ⟨fun h => h.elim, fun h => c1 h.1⟩ ?_
      unfold LB_X11_findLate_72 B_X11_findLate_109
      rw [if_neg nlt, if_neg (fun z => c1 (hsub.mp z))]
