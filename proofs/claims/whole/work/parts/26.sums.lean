/-! sums that pieces pay: bits over words -/
def wd (B i : Nat) : Nat := B / 2 ^ (64 * i) % 2 ^ 64
theorem wd_lt (B i : Nat) : wd B i < 2 ^ 64 := Nat.mod_lt _ (by decide)
theorem wd_bit (B i t : Nat) : (wd B i).testBit t = (decide (t < 64) && B.testBit (64 * i + t)) := by
  unfold wd
  rw [Nat.testBit_mod_two_pow, Nat.testBit_div_two_pow, Nat.add_comm t]
theorem wd_low {B v i : Nat} (h : i < v / 64) : wd (B ||| B <<< v) i = wd B i := by
  apply Nat.eq_of_testBit_eq
  intro t
  rw [wd_bit, wd_bit, Nat.testBit_or, Nat.testBit_shiftLeft]
  by_cases ht : t < 64
  · rw [decide_eq_false (show ¬ 64 * i + t ≥ v by omega)]; simp
  · rw [decide_eq_false ht]; simp
theorem wd_step {B v i : Nat} (h : v / 64 ≤ i) : (wd B i ||| (wd B (i - v / 64) * 2 ^ (v % 64) ||| (if 0 < v % 64 ∧ v / 64 < i then wd B (i - v / 64 - 1) / 2 ^ (64 - v % 64) else 0))) % 2 ^ 64 = wd (B ||| B <<< v) i := by
  apply Nat.eq_of_testBit_eq
  intro t
  rw [Nat.testBit_mod_two_pow, wd_bit, Nat.testBit_or, Nat.testBit_or, wd_bit, Nat.testBit_mul_two_pow, wd_bit, Nat.testBit_or, Nat.testBit_shiftLeft]
  by_cases ht : t < 64
  · rw [decide_eq_true ht, Bool.true_and, Bool.true_and, Bool.true_and]
    congr 1
    by_cases hn : v % 64 ≤ t
    · rw [decide_eq_true hn, decide_eq_true (show t - v % 64 < 64 by omega), Bool.true_and, Bool.true_and, decide_eq_true (show 64 * i + t ≥ v by omega), Bool.true_and, show 64 * (i - v / 64) + (t - v % 64) = 64 * i + t - v by omega]
      have : (if 0 < v % 64 ∧ v / 64 < i then wd B (i - v / 64 - 1) / 2 ^ (64 - v % 64) else 0).testBit t = false := by
        split
        · rw [Nat.testBit_div_two_pow, wd_bit, decide_eq_false (by omega), Bool.false_and]
        · exact Nat.zero_testBit t
      rw [this, Bool.or_false]
    · rw [decide_eq_false hn, Bool.false_and, Bool.false_or]
      by_cases hi : v / 64 < i
      · rw [if_pos ⟨by omega, hi⟩, Nat.testBit_div_two_pow, wd_bit, decide_eq_true (show t + (64 - v % 64) < 64 by omega), Bool.true_and, decide_eq_true (show 64 * i + t ≥ v by omega), Bool.true_and, show 64 * (i - v / 64 - 1) + (t + (64 - v % 64)) = 64 * i + t - v by omega]
      · rw [if_neg (fun z => hi z.2), Nat.zero_testBit, decide_eq_false (show ¬ 64 * i + t ≥ v by omega), Bool.false_and]
  · rw [decide_eq_false ht]; simp
def WB (B W : Nat) (f : Nat → Int64) : Prop := ∀ i, i < W → f i = lN (wd B i)
theorem sixty (s : Nat) (h : s < 64) : (nI s).toInt64 &&& (63 : Int64) = lN s := by
  rw [nI_l (by omega), show (63 : Int64) = lN 63 from rfl, andL, n63 h]
theorem shl64 {x s : Nat} (h : s < 64) : lN x <<< ((nI s).toInt64 &&& (63 : Int64)) = lN (x * 2 ^ s) := by
  rw [sixty s h, shlL h]
theorem ushr64 {x s : Nat} (hx : x < 2 ^ 64) (h0 : 0 < s) (h : s < 64) : ((lN x).toUInt64 >>> (((64 : Int32) - nI s).toInt64.toUInt64 &&& Int64.toUInt64 63)).toInt64 = lN (x / 2 ^ (64 - s)) := by
  rw [show (64 : Int32) - nI s = nI (64 - s) from pk_sub (a := 64) (by omega), nI_l (by omega), ushrL hx (by omega)]
theorem lN_or_0 (a : Nat) : lN a ||| (0 : Int64) = lN a := by
  rw [show (0 : Int64) = lN 0 from rfl, orL, Nat.or_zero]
theorem addC {B v p W : Nat} {f : Nat → Int64} (hv : v < 2 ^ 20) (hp : p < W) (hW : W ≤ 4) (hf : v / 64 ≤ p) (h : ∀ i, i ≤ p → f i = lN (wd B i)) (kx rec : Int32 × (Nat → Int64) → Option (Nat → Int64)) : LB_X8_addPiece_18 (nI (v / 64)) (nI (v % 64)) kx rec (nI p) f = rec (nI p - 1, vp_updL f p (lN (wd (B ||| B <<< v) p))) := by
  have hm : v % 64 < 64 := Nat.mod_lt _ (by decide)
  unfold LB_X8_addPiece_18 B_X8_addPiece_68
  rw [if_neg (nI_nlt hf (by omega)), pk_sub hf, ob_t (inb_nI (by omega) (by decide)), ob_t (inb_nI (by omega) (by decide)), nI_clamp (by omega), nI_clamp (by omega), h p (Nat.le_refl _), h (p - v / 64) (by omega), shl64 hm, Int32.sub_eq_add_neg (nI p) 1]
  have hst := wd_step (B := B) hf
  by_cases h0 : v % 64 = 0
  · rw [if_neg (by omega)] at hst
    rw [if_pos (show nI (v % 64) ≤ 0 by rw [h0]; decide), ob_t (inb_nI (by omega) (by decide)), orL, ← hst, lN_mod, Nat.or_zero]
  · rw [if_neg (show ¬ nI (v % 64) ≤ 0 from nI_nle (by omega) (by omega))]
    by_cases h1 : p ≤ v / 64
    · rw [if_neg (by omega)] at hst
      rw [if_pos (nI_le h1 (by omega)), ob_t (inb_nI (by omega) (by decide)), orL, ← hst, lN_mod, Nat.or_zero]
    · rw [if_pos (by omega)] at hst
      rw [if_neg (nI_ge (by omega) (by omega)), show nI (p - v / 64) - (1 : Int32) = nI (p - v / 64 - 1) from pk_sub (b := 1) (by omega), ob_t (inb_nI (by omega) (by decide)), ob_t (inb_nI (by omega) (by decide)), nI_clamp (by omega), h (p - v / 64 - 1) (by omega), ushr64 (wd_lt _ _) (by omega) hm, orL, orL, ← hst, lN_mod, ob_t (inb_nI (by omega) (by decide))]
theorem addM {B v p W : Nat} {f : Nat → Int64} (hv : v < 2 ^ 20) (hp : p < W) (hW : W ≤ 4) (hf : v / 64 ≤ p) (h : ∀ i, i ≤ p → f i = lN (wd B i)) (kx rec : Int32 × (Nat → Int64) → Option (Nat → Int64)) : LB_X11_laySums_61 (nI (v / 64)) (nI (v % 64)) kx rec (nI p) f = rec (nI p - 1, vp_updL f p (lN (wd (B ||| B <<< v) p))) := by
  have hm : v % 64 < 64 := Nat.mod_lt _ (by decide)
  unfold LB_X11_laySums_61 B_X11_laySums_111 B_X11_laySums_112
  rw [if_neg (nI_nlt hf (by omega)), pk_sub hf, ob_t (inb_nI (by omega) (by decide)), ob_t (inb_nI (by omega) (by decide)), nI_clamp (by omega), nI_clamp (by omega), h p (Nat.le_refl _), h (p - v / 64) (by omega), shl64 hm, Int32.sub_eq_add_neg (nI p) 1, lN_or_0]
  have hst := wd_step (B := B) hf
  by_cases h0 : v % 64 = 0
  · rw [if_neg (by omega)] at hst
    rw [if_pos (show nI (v % 64) ≤ 0 by rw [h0]; decide), ob_t (inb_nI (by omega) (by decide)), orL, ← hst, lN_mod, Nat.or_zero]
  · rw [if_neg (show ¬ nI (v % 64) ≤ 0 from nI_nle (by omega) (by omega))]
    by_cases h1 : p ≤ v / 64
    · rw [if_neg (by omega)] at hst
      rw [if_pos (nI_le h1 (by omega)), ob_t (inb_nI (by omega) (by decide)), orL, ← hst, lN_mod, Nat.or_zero]
    · rw [if_pos (by omega)] at hst
      rw [if_neg (nI_ge (by omega) (by omega)), show nI (p - v / 64) - (1 : Int32) = nI (p - v / 64 - 1) from pk_sub (b := 1) (by omega), ob_t (inb_nI (by omega) (by decide)), ob_t (inb_nI (by omega) (by decide)), nI_clamp (by omega), h (p - v / 64 - 1) (by omega), ushr64 (wd_lt _ _) (by omega) hm, orL, orL, ← hst, lN_mod, ob_t (inb_nI (by omega) (by decide))]
def AdI (B v W : Nat) (m : Nat) (a : Int32 × (Nat → Int64)) : Prop := ∃ f : Nat → Int64, a = (nI m - 1, f) ∧ m ≤ W ∧ (∀ i, i < m → f i = lN (wd B i)) ∧ ∀ i, m ≤ i → i < W → f i = lN (wd (B ||| B <<< v) i)
theorem AdI_step {B v W p : Nat} {f : Nat → Int64} (hp : p < W) (h1 : ∀ i, i < p + 1 → f i = lN (wd B i)) (h2 : ∀ i, p + 1 ≤ i → i < W → f i = lN (wd (B ||| B <<< v) i)) : AdI B v W p (nI p - 1, vp_updL f p (lN (wd (B ||| B <<< v) p))) := by
  refine ⟨_, rfl, by omega, fun i hi => ?_, fun i a b => ?_⟩
  · rw [pk_uLn (by omega)]; exact h1 i (by omega)
  · by_cases e : i = p
    · rw [e, pk_uLs]
    · rw [pk_uLn e]; exact h2 i (by omega) b
theorem addPiece_ok {B v W : Nat} {f : Nat → Int64} (hv : v < 2 ^ 20) (hW : W ≤ 4) (h : WB B W f) : ∃ g, f_X8_addPiece (nI W) f (nI v) = some g ∧ WB (B ||| B <<< v) W g := by
  unfold f_X8_addPiece L_X8_addPiece_18
  have e1 : nI v >>> ((6 : Int32) &&& 31) = nI (v / 64) := by
    simp (disch := omega) only [lit, nI_add, pk_mul, nI_subT, nI_m1T, nI_clamp, nI_ltI, nI_leI, nI_eq, inb_T, ob_tt, Option.bind_some, ↓reduceIte, shl1_n, shr_n', and_n, or_n, xor_n, n31, dvd_n, pk_us, pk_un, gt_iff_lt, ge_iff_le, m1lt, m1ge]
  have e2 : nI v &&& (63 : Int32) = nI (v % 64) := by
    rw [show (63 : Int32) = nI (2 ^ 6 - 1) from rfl, and_n, Nat.and_two_pow_sub_one_eq_mod]
  rw [e1, e2]
  refine loopQ _ (fun o => ∃ g, o = some g ∧ WB (B ||| B <<< v) W g) (AdI B v W) ?_ FUEL W _ ⟨f, rfl, Nat.le_refl _, h, fun i a b => absurd a (by omega)⟩ (fuel_lt (by omega))
  rintro m a ⟨f, rfl, hm, h1, h2⟩
  by_cases hf : m ≤ v / 64
  · refine Or.inl (fun rec => ⟨f, ?_, fun i hi => ?_⟩)
    · show LB_X8_addPiece_18 _ _ _ rec (nI m - 1) f = _
      unfold LB_X8_addPiece_18
      cases m with
      | zero => rw [if_pos (Int32.lt_of_lt_of_le (show nI 0 - (1 : Int32) < 0 by decide) (nI_pos' (by omega)))]; rfl
      | succ p => rw [show nI (p + 1) - (1 : Int32) = nI p from nI_pred p, if_pos (nI_lt (by omega) (by omega))]; rfl
    · by_cases hi2 : i < m
      · rw [h1 i hi2, wd_low (by omega)]
      · exact h2 i (by omega) hi
  · cases m with
    | zero => omega
    | succ p =>
      refine Or.inr ⟨p, _, by omega, AdI_step (by omega) h1 h2, fun rec => ?_⟩
      show LB_X8_addPiece_18 _ _ _ rec (nI (p + 1) - 1) f = _
      rw [show nI (p + 1) - (1 : Int32) = nI p from nI_pred p]
      exact addC hv (by omega) hW (by omega) (fun i hi => h1 i (by omega)) _ rec
theorem addPieceM_ok {B v : Nat} {f : Nat → Int64} (hv : v < 2 ^ 20) (h : WB B 4 f) (kx : Int32 × (Nat → Int64) → Option (Nat → Int64)) : ∃ (g : Nat → Int64) (z : Int32), L_X11_laySums_61 (nI v / 64) (nI v - nI v / (64 : Int32) * (64 : Int32)) kx FUEL (3, f) = kx (z, g) ∧ WB (B ||| B <<< v) 4 g := by
  unfold L_X11_laySums_61
  rw [show nI v / (64 : Int32) = nI (v / 64) from pk_div (d := 64) (by omega) (by decide) (by decide), show nI v - nI (v / 64) * (64 : Int32) = nI (v % 64) by
    rw [show nI (v / 64) * (64 : Int32) = nI (v / 64 * 64) from pk_mul _ 64, pk_sub (by omega)]
    congr 1; omega]
  refine loopQ _ (fun o => ∃ (g : Nat → Int64) (z : Int32), o = kx (z, g) ∧ WB (B ||| B <<< v) 4 g) (AdI B v 4) ?_ FUEL 4 _ ⟨f, rfl, Nat.le_refl _, h, fun i a b => absurd a (by omega)⟩ (fuel_lt (by omega))
  rintro m a ⟨f, rfl, hm, h1, h2⟩
  by_cases hf : m ≤ v / 64
  · refine Or.inl (fun rec => ⟨f, nI m - 1, ?_, fun i hi => ?_⟩)
    · show LB_X11_laySums_61 _ _ _ rec (nI m - 1) f = _
      unfold LB_X11_laySums_61
      cases m with
      | zero => rw [if_pos (Int32.lt_of_lt_of_le (show nI 0 - (1 : Int32) < 0 by decide) (nI_pos' (by omega)))]
      | succ p => rw [show nI (p + 1) - (1 : Int32) = nI p from nI_pred p, if_pos (nI_lt (by omega) (by omega))]
    · by_cases hi2 : i < m
      · rw [h1 i hi2, wd_low (by omega)]
      · exact h2 i (by omega) hi
  · cases m with
    | zero => omega
    | succ p =>
      refine Or.inr ⟨p, _, by omega, AdI_step (by omega) h1 h2, fun rec => ?_⟩
      show LB_X11_laySums_61 _ _ _ rec (nI (p + 1) - 1) f = _
      rw [show nI (p + 1) - (1 : Int32) = nI p from nI_pred p]
      exact addM hv (by omega) (Nat.le_refl _) (by omega) (fun i hi => h1 i (by omega)) _ rec
def SBn (b : Nat) (g : Nat → Nat) : Nat → Nat
  | 0 => b
  | i + 1 => SBn b g i ||| SBn b g i <<< g i
theorem wd_1 {i : Nat} : wd 1 i = if i = 0 then 1 else 0 := by
  unfold wd
  by_cases h : i = 0
  · rw [if_pos h, h]
  · rw [if_neg h, Nat.div_eq_of_lt (Nat.one_lt_two_pow (by omega))]
theorem load_ok {P : List (Nat × Nat × Nat)} {f s v : Nat → Int32} (h : P.length ≤ 11) (hs : pre (pv P) P.length ≤ 216) (hv : ∀ i, i < P.length → pv P i ≤ 216) (hP : PA P f s v) (bits : Nat → Int64) : ∃ g, f_X8_load bits (nI P.length) v = some (nI (pre (pv P) P.length / 64 + 1), g) ∧ WB (SBn 1 (pv P) P.length) (pre (pv P) P.length / 64 + 1) g := by
  unfold f_X8_load
  rw [whole_ok h hP, Option.bind_some]
  have e1 : nI (pre (pv P) P.length) >>> ((6 : Int32) &&& 31) + 1 = nI (pre (pv P) P.length / 64 + 1) := by
    simp (disch := omega) only [lit, nI_add, pk_mul, nI_subT, nI_m1T, nI_clamp, nI_ltI, nI_leI, nI_eq, inb_T, ob_tt, Option.bind_some, ↓reduceIte, shl1_n, shr_n', and_n, or_n, xor_n, n31, dvd_n, pk_us, pk_un, gt_iff_lt, ge_iff_le, m1lt, m1ge]
  rw [e1]
  generalize hW : pre (pv P) P.length / 64 + 1 = W
  have hW4 : W ≤ 4 := by omega
  unfold L_X8_load_15
  refine upQ _ (fun o => ∃ g, o = some (nI W, g) ∧ WB (SBn 1 (pv P) P.length) W g) W (fun j b => ∀ i, i < j → b i = lN 0) (by omega) ?_ ?_ (j := 0) (by omega) (fun i hi => absurd hi (by omega))
  · intro j b hj hI
    refine Or.inr ⟨vp_updL b j (lN 0), fun i hi => ?_, fun rec => ?_⟩
    · by_cases e : i = j
      · rw [e, pk_uLs]
      · rw [pk_uLn e]; exact hI i (by omega)
    · show LB_X8_load_15 _ _ rec (nI j) b = _
      unfold LB_X8_load_15
      rw [if_neg (nI_ge hj (by omega)), ob_t (inb_nI (by omega) (by decide)), nI_clamp (by omega), nI_1]
      rfl
  · intro b hI rec
    show ∃ g, LB_X8_load_15 _ _ rec (nI W) b = _ ∧ _
    unfold LB_X8_load_15
    rw [if_pos (nI_le (Nat.le_refl _) (by omega))]
    dsimp only
    unfold B_X8_load_36 L_X8_load_45
    rw [ob_t (by decide)]
    refine upQ _ (fun o => ∃ g, o = some (nI W, g) ∧ WB (SBn 1 (pv P) P.length) W g) P.length (fun j b => WB (SBn 1 (pv P) j) W b) (by omega) ?_ ?_ (j := 0) (by omega) (fun i hi => ?_)
    · intro j b hj hI
      obtain ⟨g, eg, hg⟩ := addPiece_ok (v := pv P j) (by have := hv j hj; omega) hW4 hI
      refine Or.inr ⟨g, hg, fun rec => ?_⟩
      show LB_X8_load_45 _ _ _ _ rec (nI j) b = _
      unfold LB_X8_load_45
      rw [if_neg (nI_ge hj (by omega)), ob_t (inb_nI (by omega) (by decide)), nI_clamp (by omega), (hP j hj).2.2]
      show (f_X8_addPiece (nI W) b (nI (pv P j))).bind _ = _
      rw [eg, Option.bind_some, nI_1]
    · intro b hI rec
      refine ⟨b, ?_, hI⟩
      show LB_X8_load_45 _ _ _ _ rec (nI P.length) b = _
      unfold LB_X8_load_45
      rw [if_pos (nI_le (Nat.le_refl _) (by omega))]
      rfl
    · show vp_updL b 0 (1 : Int64) i = lN (wd 1 i)
      rw [wd_1]
      by_cases e : i = 0
      · rw [e, pk_uLs]; rfl
      · rw [pk_uLn e, if_neg e]; exact hI i hi
theorem laySums_ok {P : List (Nat × Nat × Nat)} {f s v : Nat → Int32} (h : P.length ≤ 11) (hv : ∀ i, i < P.length → pv P i ≤ 216) (hP : PA P f s v) (sums : Nat → Int64) : ∃ g, f_X11_laySums (nI P.length) sums v = some g ∧ WB (SBn 1 (pv P) P.length) 4 g := by
  unfold f_X11_laySums L_X11_laySums_30
  rw [ob_t (by decide), ob_t (by decide), ob_t (by decide), ob_t (by decide)]
  refine loopR _ (fun o => ∃ g, o = some g ∧ WB (SBn 1 (pv P) P.length) 4 g) (fun m a => ∃ (j : Nat) (b : Nat → Int64), a = (nI j, b) ∧ j ≤ P.length ∧ m = P.length - j ∧ WB (SBn 1 (pv P) j) 4 b) ?_ FUEL P.length _ ⟨0, _, rfl, by omega, by omega, fun i hi => ?_⟩ (fuel_lt (by omega))
  · rintro m a ⟨j, b, rfl, hj, rfl, hI⟩ rec
    by_cases e : j = P.length
    · subst e
      refine Or.inl ⟨b, ?_, hI⟩
      show LB_X11_laySums_30 _ _ _ rec (nI P.length) b = _
      unfold LB_X11_laySums_30
      rw [if_pos (nI_le (Nat.le_refl _) (by omega))]
      rfl
    · have hj2 : j < P.length := by omega
      obtain ⟨g, z, eg, hg⟩ := addPieceM_ok (v := pv P j) (by have := hv j hj2; omega) hI (fun t => B_X11_laySums_133 (fun t => B_X11_laySums_139 t.2) rec t.2 (nI j))
      refine Or.inr ⟨P.length - (j + 1), (nI (j + 1), g), by omega, ⟨j + 1, g, rfl, by omega, rfl, hg⟩, ?_⟩
      show LB_X11_laySums_30 _ _ _ rec (nI j) b = _
      unfold LB_X11_laySums_30
      have ii : inb (nI j) 24 = true := inb_nI (by omega) (by decide)
      rw [if_neg (nI_ge hj2 (by omega)), ob_t ii, ob_t ii, nI_clamp (by omega), (hP j hj2).2.2]
      show L_X11_laySums_61 (nI (pv P j) / 64) _ _ _ _ = _
      refine eg.trans ?_
      unfold B_X11_laySums_133
      rw [nI_1]
  · show _ = lN (wd 1 i)
    rw [wd_1]
    exact co_4 (P := fun i => vp_updL (vp_updL (vp_updL (vp_updL sums 0 (1 : Int64)) 1 (0 : Int64)) 2 (0 : Int64)) 3 (0 : Int64) i = lN (if i = 0 then 1 else 0)) rfl rfl rfl rfl hi
