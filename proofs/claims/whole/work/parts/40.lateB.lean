/-! late: the most that a part counts -/
def stN (q : Nat → Bool) : Nat → Nat
  | 0 => 0
  | m + 1 => stN q m + (if q m = true then 2 ^ m else 0)
theorem stN_lt (q : Nat → Bool) : ∀ m, stN q m < 2 ^ m
  | 0 => Nat.zero_lt_one
  | m + 1 => by
    have := stN_lt q m
    have hpp : 2 ^ (m + 1) = 2 ^ m + 2 ^ m := by rw [Nat.pow_succ]; omega
    show stN q m + (if q m = true then 2 ^ m else 0) < _
    split <;> omega
theorem stN_bit (q : Nat → Bool) : ∀ m j, (stN q m).testBit j = (decide (j < m) && q j)
  | 0, j => by
    show (0 : Nat).testBit j = _
    rw [Nat.zero_testBit, decide_eq_false (by omega)]; rfl
  | m + 1, j => by
    have ih := stN_bit q m j
    show (stN q m + (if q m = true then 2 ^ m else 0)).testBit j = _
    by_cases c : q m = true
    · rw [if_pos c, Nat.add_comm, tb_hi (stN_lt q m), ih]
      by_cases e : j = m
      · rw [e, c, decide_eq_true rfl, decide_eq_true (show m < m + 1 by omega)]; simp
      · rw [decide_eq_false e, Bool.false_or]
        by_cases e2 : j < m
        · rw [decide_eq_true e2, decide_eq_true (show j < m + 1 by omega)]
        · rw [decide_eq_false e2, decide_eq_false (show ¬ j < m + 1 by omega)]
    · rw [if_neg c, Nat.add_zero, ih]
      by_cases e : j = m
      · rw [e]; simp only [Bool.not_eq_true] at c; rw [c, Bool.and_false, Bool.and_false]
      · by_cases e2 : j < m
        · rw [decide_eq_true e2, decide_eq_true (show j < m + 1 by omega)]
        · rw [decide_eq_false e2, decide_eq_false (show ¬ j < m + 1 by omega)]
theorem stN_congr {q q' : Nat → Bool} : ∀ m, (∀ j, j < m → q j = q' j) → stN q m = stN q' m
  | 0, _ => rfl
  | m + 1, h => by
    show stN q m + (if q m = true then 2 ^ m else 0) = stN q' m + (if q' m = true then 2 ^ m else 0)
    rw [stN_congr m (fun j hj => h j (by omega)), h m (by omega)]
def stX (x : Nat → Nat) (M d : Nat) : Nat := stN (fun j => decide (1 ≤ x j ∧ x j ≤ d)) M
theorem stX_bit (x : Nat → Nat) (M d j : Nat) : (stX x M d).testBit j = (decide (j < M) && decide (1 ≤ x j ∧ x j ≤ d)) := stN_bit _ M j
theorem stX_lt (x : Nat → Nat) (M d : Nat) : stX x M d < 2 ^ M := stN_lt _ M
def Xp (P : Nat → Nat → Bool) (M d i p : Nat) (x : Nat → Nat) : Prop := (∀ j, j < M → (x j ≤ d ∨ (x j = d + 1 ∧ j < i))) ∧ (∀ j, j < M → (p.testBit j = true ↔ x j ≠ 0)) ∧ ∀ e, 1 ≤ e → e ≤ d → P (stX x M e) e = true
def sc (Wt : Nat → Nat) (x : Nat → Nat) : Nat → Nat
  | 0 => 0
  | m + 1 => sc Wt x m + x m * Wt m
def upN (x : Nat → Nat) (i v : Nat) : Nat → Nat := fun j => if j = i then v else x j
theorem sc_congr {Wt x y : Nat → Nat} : ∀ m, (∀ j, j < m → x j = y j) → sc Wt x m = sc Wt y m
  | 0, _ => rfl
  | m + 1, h => by
    show sc Wt x m + x m * Wt m = sc Wt y m + y m * Wt m
    rw [sc_congr m (fun j hj => h j (by omega)), h m (by omega)]
theorem sc_up {Wt x : Nat → Nat} {i v : Nat} : ∀ m, i < m → sc Wt (upN x i v) m + x i * Wt i = sc Wt x m + v * Wt i
  | 0, h => absurd h (by omega)
  | m + 1, h => by
    show sc Wt (upN x i v) m + upN x i v m * Wt m + x i * Wt i = sc Wt x m + x m * Wt m + v * Wt i
    by_cases e : i = m
    · subst e
      rw [sc_congr (x := upN x i v) (y := x) i (fun j hj => if_neg (by omega)), show upN x i v i = v from if_pos rfl]
      omega
    · have ih := sc_up (Wt := Wt) (x := x) (i := i) (v := v) m (by omega)
      rw [show upN x i v m = x m from if_neg (fun z => e z.symm)]
      omega
theorem sc_le {Wt x : Nat → Nat} {a b : Nat} : ∀ m, (∀ j, j < m → x j ≤ a ∧ Wt j ≤ b) → sc Wt x m ≤ m * (a * b)
  | 0, _ => Nat.zero_le _
  | m + 1, h => by
    have ih := sc_le (Wt := Wt) (x := x) (a := a) (b := b) m (fun j hj => h j (by omega))
    have h1 := h m (by omega)
    have h2 : x m * Wt m ≤ a * b := Nat.mul_le_mul h1.1 h1.2
    show sc Wt x m + x m * Wt m ≤ _
    rw [Nat.succ_mul]
    omega
def MX (X : (Nat → Nat) → Prop) (s : (Nat → Nat) → Nat) (v : Int64) : Prop := (v = -1 ∧ ∀ x, ¬ X x) ∨ ∃ x, X x ∧ v = lN (s x) ∧ ∀ y, X y → s y ≤ s x
theorem MX_congr {X Y : (Nat → Nat) → Prop} {s : (Nat → Nat) → Nat} {v : Int64} (h : ∀ x, X x ↔ Y x) (hm : MX X s v) : MX Y s v := by
  rcases hm with ⟨a, b⟩ | ⟨x, a, b, c⟩
  · exact Or.inl ⟨a, fun x hx => b x ((h x).mpr hx)⟩
  · exact Or.inr ⟨x, (h x).mp a, b, fun y hy => c y ((h y).mpr hy)⟩
theorem stX_up {x : Nat → Nat} {M d i v e : Nat} (h1 : x i = 0 ∨ x i = d + 1) (h2 : v = 0 ∨ v = d + 1) (he : e ≤ d) : stX (upN x i v) M e = stX x M e := by
  refine stN_congr M (fun j _ => ?_)
  show decide (1 ≤ upN x i v j ∧ upN x i v j ≤ e) = decide (1 ≤ x j ∧ x j ≤ e)
  by_cases c : j = i
  · rw [show upN x i v j = v from if_pos c, c, decide_eq_false (show ¬ (1 ≤ v ∧ v ≤ e) by omega), decide_eq_false (show ¬ (1 ≤ x i ∧ x i ≤ e) by omega)]
  · rw [show upN x i v j = x j from if_neg c]
theorem Xp_low {P : Nat → Nat → Bool} {M d i p : Nat} {x : Nat → Nat} (hi : i < M) (hb : p.testBit i = false) : Xp P M d i p x ↔ Xp P M d (i + 1) p x := by
  constructor
  · rintro ⟨h1, h2, h3⟩
    exact ⟨fun j hj => by rcases h1 j hj with z | z
                          · exact Or.inl z
                          · exact Or.inr ⟨z.1, by omega⟩, h2, h3⟩
  · rintro ⟨h1, h2, h3⟩
    refine ⟨fun j hj => ?_, h2, h3⟩
    by_cases c : j = i
    · have := h2 j hj
      rw [c, hb] at this
      have h0 : x i = 0 := by
        by_cases z : x i = 0
        · exact z
        · exact absurd (this.mpr z) Bool.false_ne_true
      rw [c, h0]; exact Or.inl (Nat.zero_le _)
    · rcases h1 j hj with z | z
      · exact Or.inl z
      · exact Or.inr ⟨z.1, by omega⟩
theorem Xp_high {P : Nat → Nat → Bool} {M d i p : Nat} {x : Nat → Nat} (hi : i < M) (hb : p.testBit i = true) : Xp P M d (i + 1) p x ↔ (Xp P M d i p x ∨ (x i = d + 1 ∧ Xp P M d (i + 1) (p - 2 ^ i) (upN x i 0))) := by
  obtain ⟨-, hbit⟩ := tb_less hb
  constructor
  · rintro ⟨h1, h2, h3⟩
    by_cases c : x i = d + 1
    · refine Or.inr ⟨c, fun j hj => ?_, fun j hj => ?_, fun e e1 e2 => ?_⟩
      · by_cases cj : j = i
        · rw [show upN x i 0 j = 0 from if_pos cj]; exact Or.inl (Nat.zero_le _)
        · rw [show upN x i 0 j = x j from if_neg cj]; exact h1 j hj
      · rw [hbit]
        by_cases cj : j = i
        · rw [show upN x i 0 j = 0 from if_pos cj, decide_eq_true cj]; simp
        · rw [show upN x i 0 j = x j from if_neg cj, decide_eq_false cj]
          simp only [Bool.not_false, Bool.and_true]
          exact h2 j hj
      · rw [stX_up (Or.inr c) (Or.inl rfl) e2]; exact h3 e e1 e2
    · refine Or.inl ⟨fun j hj => ?_, h2, h3⟩
      rcases h1 j hj with z | z
      · exact Or.inl z
      · by_cases cj : j = i
        · rw [cj] at z; exact absurd z.1 c
        · exact Or.inr ⟨z.1, by omega⟩
  · rintro (⟨h1, h2, h3⟩ | ⟨c, h1, h2, h3⟩)
    · exact ⟨fun j hj => by rcases h1 j hj with z | z
                            · exact Or.inl z
                            · exact Or.inr ⟨z.1, by omega⟩, h2, h3⟩
    · refine ⟨fun j hj => ?_, fun j hj => ?_, fun e e1 e2 => ?_⟩
      · by_cases cj : j = i
        · rw [cj]; exact Or.inr ⟨c, by omega⟩
        · have := h1 j hj
          rw [show upN x i 0 j = x j from if_neg cj] at this
          exact this
      · by_cases cj : j = i
        · rw [cj, hb]; exact ⟨fun _ => by omega, fun _ => rfl⟩
        · have := h2 j hj
          rw [hbit, show upN x i 0 j = x j from if_neg cj, decide_eq_false cj] at this
          simp only [Bool.not_false, Bool.and_true] at this
          exact this
      · have := h3 e e1 e2
        rw [stX_up (Or.inr c) (Or.inl rfl) e2] at this
        exact this
theorem Xp_put {P : Nat → Nat → Bool} {M d i p : Nat} {y : Nat → Nat} (hi : i < M) (hb : p.testBit i = true) (h : Xp P M d (i + 1) (p - 2 ^ i) y) : y i = 0 ∧ Xp P M d (i + 1) p (upN y i (d + 1)) := by
  obtain ⟨-, hbit⟩ := tb_less hb
  have y0 : y i = 0 := by
    have := h.2.1 i hi
    rw [hbit, decide_eq_true rfl] at this
    by_cases z : y i = 0
    · exact z
    · have := this.mpr z
      simp at this
  refine ⟨y0, (Xp_high hi hb).mpr (Or.inr ⟨if_pos rfl, ?_⟩)⟩
  have e : upN (upN y i (d + 1)) i 0 = y := by
    funext j
    show (if j = i then 0 else if j = i then d + 1 else y j) = y j
    by_cases c : j = i
    · rw [if_pos c, c, y0]
    · rw [if_neg c, if_neg c]
  rw [e]; exact h
theorem lN_ltB {a b : Nat} (ha : a < 2 ^ 62) (hb : b < 2 ^ 62) : lN a < lN b ↔ a < b := by
  rw [Int64.lt_iff_toInt_lt]
  show (Int64.ofNat a).toInt < (Int64.ofNat b).toInt ↔ _
  rw [Int64.toInt_ofNat_of_lt (by omega), Int64.toInt_ofNat_of_lt (by omega)]
  omega
theorem lN_n1 {a : Nat} (ha : a < 2 ^ 62) : ¬ lN a < (-1 : Int64) := by
  rw [Int64.lt_iff_toInt_lt]
  show ¬ (Int64.ofNat a).toInt < _
  rw [Int64.toInt_ofNat_of_lt (by omega), show (-1 : Int64).toInt = -1 by decide]
  omega
theorem lN_n0 {a : Nat} (ha : a < 2 ^ 62) : ¬ lg_cmp (lN a) (0 : Int64) < 0 := fun z => by
  have := lgc_lt.mp z
  rw [show (0 : Int64) = lN 0 from rfl, lN_ltB ha (by decide)] at this
  omega
theorem and_bit {p i : Nat} (hi : i < 31) : (nI p &&& nI (2 ^ i) = 0) ↔ p.testBit i = false := by
  have hp : 2 ^ i < 2 ^ 31 := Nat.pow_lt_pow_right (by decide) hi
  have hle : p &&& 2 ^ i ≤ 2 ^ i := Nat.and_le_right
  rw [and_n, show (0 : Int32) = nI 0 from rfl, nI_eq (by omega) (by decide)]
  constructor
  · intro h
    have := congrArg (fun z => z.testBit i) h
    simp only [Nat.testBit_and, Nat.testBit_two_pow, Nat.zero_testBit, decide_true, Bool.and_true] at this
    exact this
  · intro h
    apply Nat.eq_of_testBit_eq
    intro j
    rw [Nat.testBit_and, Nat.testBit_two_pow, Nat.zero_testBit]
    by_cases c : i = j
    · rw [← c, h]; rfl
    · rw [decide_eq_false c, Bool.and_false]
theorem xor_bit {p i : Nat} (h : p.testBit i = true) : p ^^^ 2 ^ i = p - 2 ^ i := by
  obtain ⟨-, hb⟩ := tb_less h
  apply Nat.eq_of_testBit_eq
  intro j
  rw [Nat.testBit_xor, Nat.testBit_two_pow, hb]
  by_cases c : i = j
  · rw [← c, h, decide_eq_true rfl]; simp
  · rw [decide_eq_false c, decide_eq_false (fun z => c z.symm)]; simp
theorem makeCut_ok {P : Nat → Nat → Bool} {M d i : Nat} {Wt : Nat → Nat} (hM : M ≤ 5) (hd : d + 1 ≤ 60) (hi : i < M) (hW : ∀ j, j < M → Wt j ≤ 844596301) (hdg : ∀ j, j < M → (844596301 : Int64) - dig j = lN (Wt j)) {counts : Nat → Int64} (h : ∀ p, p < 2 ^ M → MX (Xp P M d i p) (fun x => sc Wt x M) (counts p)) : ∃ c', f_X4_makeCut counts (nI i) (nI (d + 1)) (nI (2 ^ M)) = some c' ∧ ∀ p, p < 2 ^ M → MX (Xp P M d (i + 1) p) (fun x => sc Wt x M) (c' p) := by
  have hp5 : 2 ^ M ≤ 32 := Nat.pow_le_pow_right (n := 2) (j := 5) (by decide) hM
  have hpi := Nat.two_pow_pos i
  have hsc : ∀ k p x, Xp P M d k p x → sc Wt x M < 2 ^ 40 := fun k p x hx => by
    have h1 := sc_le (Wt := Wt) (x := x) (a := 60) (b := 844596301) M (fun j hj => ⟨by rcases hx.1 j hj with z | z <;> omega, hW j hj⟩)
    have h2 : M * (60 * 844596301) ≤ 5 * (60 * 844596301) := Nat.mul_le_mul_right _ hM
    omega
  have hgn : (d + 1) * Wt i ≤ 60 * 844596301 := Nat.mul_le_mul hd (hW i hi)
  unfold f_X4_makeCut L_X4_makeCut_22
  rw [ob_t (inb_nI (by omega) (by decide)), nI_clamp (by omega), hdg i hi, nI_l (by omega), lN_mul, shl31 (by omega)]
  obtain ⟨c', h1, q⟩ := upK (fun rec t => LB_X4_makeCut_22 (nI (2 ^ M)) (nI (2 ^ i)) (lN ((d + 1) * Wt i)) (fun t => B_X4_makeCut_87 t.2) rec t.1 t.2) (fun t => B_X4_makeCut_87 t.2) (2 ^ M) (fun k f => (∀ p, p < k → MX (Xp P M d (i + 1) p) (fun x => sc Wt x M) (f p)) ∧ ∀ p, k ≤ p → p < 2 ^ M → MX (Xp P M d i p) (fun x => sc Wt x M) (f p)) (by omega) (fun p f hp hI rec => by
      obtain ⟨i1, i2⟩ := hI
      have ip : inb (nI p) 32 = true := inb_nI (by omega) (by decide)
      have stay : MX (Xp P M d (i + 1) p) (fun x => sc Wt x M) (f p) → ∃ s', ((∀ k, k < p + 1 → MX (Xp P M d (i + 1) k) (fun x => sc Wt x M) (s' k)) ∧ ∀ k, p + 1 ≤ k → k < 2 ^ M → MX (Xp P M d i k) (fun x => sc Wt x M) (s' k)) ∧ rec (nI (p + 1), f) = rec (nI (p + 1), s') := fun hm => ⟨f, ⟨fun k hk => by
          by_cases c : k = p
          · rw [c]; exact hm
          · exact i1 k (by omega), fun k k1 k2 => i2 k (by omega) k2⟩, rfl⟩
      have put : ∀ v : Int64, MX (Xp P M d (i + 1) p) (fun x => sc Wt x M) v → ∃ s', ((∀ k, k < p + 1 → MX (Xp P M d (i + 1) k) (fun x => sc Wt x M) (s' k)) ∧ ∀ k, p + 1 ≤ k → k < 2 ^ M → MX (Xp P M d i k) (fun x => sc Wt x M) (s' k)) ∧ rec (nI (p + 1), vp_updL f p v) = rec (nI (p + 1), s') := fun v hm => ⟨vp_updL f p v, ⟨fun k hk => by
          by_cases c : k = p
          · rw [c, pk_uLs]; exact hm
          · rw [pk_uLn c]; exact i1 k (by omega), fun k k1 k2 => by rw [pk_uLn (by omega)]; exact i2 k (by omega) k2⟩, rfl⟩
      show ∃ s', _ ∧ LB_X4_makeCut_22 _ _ _ _ rec (nI p) f = _
      unfold LB_X4_makeCut_22 B_X4_makeCut_81
      rw [if_neg (nI_ge hp (by omega)), nI_1]
      have old := i2 p (Nat.le_refl _) hp
      by_cases b : p.testBit i = true
      · obtain ⟨hle, hbit⟩ := tb_less b
        have low := i1 (p - 2 ^ i) (by omega)
        rw [if_neg (fun z => by rw [(and_bit (by omega)).mp z] at b; cases b), xor_n, xor_bit b, ob_t (inb_nI (by omega) (by decide)), ob_t ip, ob_t (inb_nI (by omega) (by decide)), ob_t ip, nI_clamp (by omega), nI_clamp (by omega)]
        rcases low with ⟨l1, l2⟩ | ⟨y, y1, y2, y3⟩
        · rw [l1, if_pos (by decide)]
          refine stay (MX_congr (fun x => ?_) old)
          rw [Xp_high hi b]
          exact ⟨Or.inl, fun z => z.elim id (fun z => absurd z.2 (l2 _))⟩
        · have hys := hsc _ _ _ y1
          obtain ⟨y0, yp⟩ := Xp_put hi b y1
          have ysc : sc Wt (upN y i (d + 1)) M = sc Wt y M + (d + 1) * Wt i := by
            have := sc_up (Wt := Wt) (x := y) (i := i) (v := d + 1) M hi
            rw [y0, Nat.zero_mul] at this
            omega
          have hz : ∀ z, z i = d + 1 → Xp P M d (i + 1) (p - 2 ^ i) (upN z i 0) → sc Wt z M ≤ sc Wt y M + (d + 1) * Wt i := fun z z1 z2 => by
            have a : sc Wt (upN z i 0) M ≤ sc Wt y M := y3 _ z2
            have b := sc_up (Wt := Wt) (x := z) (i := i) (v := 0) M hi
            rw [z1, Nat.zero_mul] at b
            omega
          have y2 : f (p - 2 ^ i) = lN (sc Wt y M) := y2
          rw [y2, if_neg (lN_n0 (by omega)), lN_add]
          rcases old with ⟨o1, o2⟩ | ⟨x, x1, x2, x3⟩
          · rw [o1, if_neg (lN_n1 (by omega))]
            refine put _ (Or.inr ⟨upN y i (d + 1), yp, by rw [← ysc], fun z hzz => ?_⟩)
            show sc Wt z M ≤ sc Wt (upN y i (d + 1)) M
            rw [ysc]
            rcases (Xp_high hi b).mp hzz with q | q
            · exact absurd q (o2 z)
            · exact hz z q.1 q.2
          · have x2 : f p = lN (sc Wt x M) := x2
            have hxs := hsc _ _ _ x1
            rw [x2]
            by_cases c : sc Wt y M + (d + 1) * Wt i < sc Wt x M
            · rw [if_pos ((lN_ltB (by omega) (by omega)).mpr c)]
              refine put _ (Or.inr ⟨x, (Xp_high hi b).mpr (Or.inl x1), rfl, fun z hzz => ?_⟩)
              show sc Wt z M ≤ sc Wt x M
              rcases (Xp_high hi b).mp hzz with q | q
              · exact x3 z q
              · have := hz z q.1 q.2; omega
            · rw [if_neg (fun z => c ((lN_ltB (by omega) (by omega)).mp z))]
              refine put _ (Or.inr ⟨upN y i (d + 1), yp, by rw [← ysc], fun z hzz => ?_⟩)
              show sc Wt z M ≤ sc Wt (upN y i (d + 1)) M
              rw [ysc]
              rcases (Xp_high hi b).mp hzz with q | q
              · have : sc Wt z M ≤ sc Wt x M := x3 z q
                omega
              · exact hz z q.1 q.2
      · have b' : p.testBit i = false := by simpa using b
        rw [if_pos ((and_bit (by omega)).mpr b')]
        exact stay (MX_congr (fun x => Xp_low hi b') old)) (fun f _ rec => by
      show LB_X4_makeCut_22 _ _ _ _ rec (nI (2 ^ M)) f = _
      unfold LB_X4_makeCut_22
      rw [if_pos (nI_le (Nat.le_refl _) (by omega))]) (j := 0) (s := counts) (Nat.zero_le _) ⟨fun p hp => absurd hp (by omega), fun p _ hp => h p hp⟩
  exact ⟨c', q.trans rfl, h1.1⟩
