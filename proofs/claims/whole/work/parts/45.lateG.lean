/-! late: the reference's table, all of it -/
theorem lateRow {P : Nat → Nat → Bool} {M n k : Nat} {fx : Nat → Nat} {fixed lates : Nat → Int32} {paid : Nat → Int64} (hM : M ≤ 5) (hn : n ≤ 60) (hk : k < n) (hP : PdR P n (2 ^ M) paid) (hf : ∀ i, i < M → fixed i = nI (fx i) ∧ fx i < 2 ^ 20) (hl : ∀ T, T < 2 ^ M → (lates (32 * (n - k + 1) + T)).toInt = lv P M n fx k T) (kx : Int32 × (Nat → Int32) → Option (Int32 × (Nat → Int32))) : ∃ l', ((∀ S, S < 2 ^ M → (l' (32 * (n - k) + S)).toInt = lv P M n fx (k + 1) S) ∧ ∀ x, (x < 32 * (n - k) ∨ 32 * (n - k) + 32 ≤ x) → l' x = lates x) ∧ L_X11_findLate_58 paid fixed (nI M) (nI (2 ^ M - 1)) (nI (n - k)) kx FUEL (0, lates) = kx (nI (2 ^ M), l') := by
  have hp5 : 2 ^ M ≤ 32 := Nat.pow_le_pow_right (n := 2) (j := 5) (by decide) hM
  have hp0 := Nat.two_pow_pos M
  unfold L_X11_findLate_58
  refine upK (fun rec t => LB_X11_findLate_58 paid fixed (nI M) (nI (2 ^ M - 1)) (nI (n - k)) kx rec t.1 t.2) kx (2 ^ M) (fun j f => (∀ S, S < j → (f (32 * (n - k) + S)).toInt = lv P M n fx (k + 1) S) ∧ ∀ x, (x < 32 * (n - k) ∨ 32 * (n - k) + 32 ≤ x) → f x = lates x) (by omega) (fun S f hS hI rec => ?_) (fun f _ rec => ?_) (j := 0) (s := lates) (Nat.zero_le _) ⟨fun S hS => absurd hS (by omega), fun x _ => rfl⟩
  · obtain ⟨i1, i2⟩ := hI
    obtain ⟨v, y, hv, ev⟩ := lateCell (lates := f) hM hn hk hS hP hf (fun T hT => by rw [i2 _ (by omega)]; exact hl T hT) (fun t => B_X11_findLate_244 kx rec f (nI (n - k)) (nI S) t.1)
    refine ⟨upd f (32 * (n - k) + S) v, ⟨fun S' hS' => ?_, fun x hx => ?_⟩, ?_⟩
    · by_cases c : S' = S
      · rw [c, pk_us]; exact hv
      · rw [pk_un (by omega)]; exact i1 S' (by omega)
    · rw [pk_un (by omega)]; exact i2 x hx
    · show LB_X11_findLate_58 _ _ _ _ _ _ rec (nI S) f = _
      unfold LB_X11_findLate_58
      rw [if_neg (nI_nlt (by omega) (by omega)), ev]
      unfold B_X11_findLate_244
      rw [show (32 : Int32) * nI (n - k) = nI (32 * (n - k)) from pk_mul 32 _, nI_add, ob_t (inb_nI (by omega) (by decide)), nI_clamp (by omega), nI_1]
  · show LB_X11_findLate_58 _ _ _ _ _ _ rec (nI (2 ^ M)) f = _
    unfold LB_X11_findLate_58
    rw [if_pos (nI_lt (by omega) (by omega))]
theorem findLate_ok {P : Nat → Nat → Bool} {M n : Nat} {fx : Nat → Nat} {fixed : Nat → Int32} {paid : Nat → Int64} (hM : M ≤ 5) (hn : n ≤ 60) (hP : PdR P n (2 ^ M) paid) (hf : ∀ i, i < M → fixed i = nI (fx i) ∧ fx i < 2 ^ 20) (lates : Nat → Int32) : ∃ v l', f_X11_findLate lates paid fixed (nI n) (nI M) = some (v, l') ∧ v.toInt = lv P M n fx n 0 := by
  have hp5 : 2 ^ M ≤ 32 := Nat.pow_le_pow_right (n := 2) (j := 5) (by decide) hM
  have hp0 := Nat.two_pow_pos M
  have em : nI (2 ^ M) - (1 : Int32) = nI (2 ^ M - 1) := pk_sub (b := 1) (by omega)
  unfold f_X11_findLate L_X11_findLate_9
  rw [shl31 (by omega), em]
  obtain ⟨l1, h1, q1⟩ := upK (fun rec t => LB_X11_findLate_9 (nI n) (nI (2 ^ M - 1)) (fun t => B_X11_findLate_47 t.2 paid fixed (nI n) (nI M) (nI (2 ^ M - 1))) rec t.1 t.2) (fun t => B_X11_findLate_47 t.2 paid fixed (nI n) (nI M) (nI (2 ^ M - 1))) (2 ^ M) (fun j f => ∀ S, S < j → (f (32 * (n + 1) + S)).toInt = lv P M n fx 0 S) (by omega) (fun S f hS hI rec => by
      have e5 : (32 : Int32) * nI (n + 1) + nI S = nI (32 * (n + 1) + S) := by
        rw [show (32 : Int32) * nI (n + 1) = nI (32 * (n + 1)) from pk_mul 32 _, nI_add]
      have ib : inb (nI (32 * (n + 1) + S)) 1984 = true := inb_nI (by omega) (by decide)
      show ∃ s', _ ∧ LB_X11_findLate_9 _ _ _ rec (nI S) f = _
      unfold LB_X11_findLate_9 B_X11_findLate_40
      rw [if_neg (nI_nlt (by omega) (by omega)), nI_1, nI_1, e5, ob_t ib, ob_t ib, nI_clamp (by omega)]
      have put : ∀ x : Int32, x.toInt = lv P M n fx 0 S → ∃ s', (∀ S', S' < S + 1 → (s' (32 * (n + 1) + S')).toInt = lv P M n fx 0 S') ∧ rec (nI (S + 1), upd f (32 * (n + 1) + S) x) = rec (nI (S + 1), s') := fun x hx => ⟨upd f (32 * (n + 1) + S) x, fun S' hS' => by
          by_cases c : S' = S
          · rw [c, pk_us]; exact hx
          · rw [pk_un (by omega)]; exact hI S' (by omega), rfl⟩
      by_cases c : S = 2 ^ M - 1
      · rw [if_pos (by rw [c])]
        refine put 0 ?_
        show (0 : Int32).toInt = (if S = 2 ^ M - 1 then (0 : Int) else -1000000)
        rw [if_pos c]; decide
      · rw [if_neg (fun z => c ((nI_eq (by omega) (by omega)).mp z))]
        refine put (-1000000) ?_
        show (-1000000 : Int32).toInt = (if S = 2 ^ M - 1 then (0 : Int) else -1000000)
        rw [if_neg c]; decide) (fun f _ rec => by
      show LB_X11_findLate_9 _ _ _ rec (nI (2 ^ M)) f = _
      unfold LB_X11_findLate_9
      rw [if_pos (nI_lt (by omega) (by omega))]) (j := 0) (s := lates) (Nat.zero_le _) (fun S hS => absurd hS (by omega))
  refine (Exists.imp fun v => Exists.imp fun l' => And.imp_left fun z => q1.trans z) ?_
  show ∃ v l', B_X11_findLate_47 l1 paid fixed (nI n) (nI M) (nI (2 ^ M - 1)) = _ ∧ _
  unfold B_X11_findLate_47 L_X11_findLate_50
  refine loopR _ (fun o => ∃ (v : Int32) (l' : Nat → Int32), o = some (v, l') ∧ v.toInt = lv P M n fx n 0) (fun m a => ∃ k f, a = (nI (n - k), f) ∧ k ≤ n ∧ m = n - k ∧ ∀ T, T < 2 ^ M → (f (32 * (n - k + 1) + T)).toInt = lv P M n fx k T) ?_ FUEL n _ ⟨0, l1, rfl, by omega, rfl, h1⟩ (fuel_lt (by omega))
  rintro m a ⟨k, f, rfl, hk, rfl, hI⟩ rec
  by_cases e : k = n
  · subst e
    refine Or.inl ⟨f 32, f, ?_, ?_⟩
    · show LB_X11_findLate_50 _ _ _ _ _ rec (nI (k - k)) f = _
      unfold LB_X11_findLate_50
      rw [Nat.sub_self, if_pos (by decide)]
      show B_X11_findLate_271 f = _
      unfold B_X11_findLate_271
      rw [ob_t (by decide)]
      rfl
    · have := hI 0 hp0
      rw [Nat.sub_self] at this
      exact this
  · right
    obtain ⟨f', ⟨k1, k2⟩, q⟩ := lateRow hM hn (show k < n by omega) hP hf hI (fun t => B_X11_findLate_265 (fun t => B_X11_findLate_271 t.2) rec t.2 (nI (n - k)))
    refine ⟨n - (k + 1), (nI (n - (k + 1)), f'), by omega, ⟨k + 1, f', rfl, by omega, rfl, fun T hT => ?_⟩, ?_⟩
    · rw [show n - (k + 1) + 1 = n - k by omega]; exact k1 T hT
    · show LB_X11_findLate_50 _ _ _ _ _ rec (nI (n - k)) f = _
      unfold LB_X11_findLate_50
      rw [if_neg (show ¬ nI (n - k) ≤ (0 : Int32) from nI_ge (a := 0) (by omega) (by omega)), q]
      unfold B_X11_findLate_265
      rw [show n - k = n - (k + 1) + 1 by omega, pk_m1]
/-! late: what the table says -/
def Fu (P : Nat → Nat → Bool) (M n : Nat) (fx : Nat → Nat) (day S : Nat) (z : Nat → Nat) : Prop := (∀ j, j < M → ((S.testBit j = true ∧ z j = 0) ∨ (S.testBit j = false ∧ day ≤ z j ∧ z j ≤ n))) ∧ (∀ e, day ≤ e → e ≤ n → P (S ||| stX z M e) e = true) ∧ ∀ j, j < M → (fx j = 0 ∨ ∀ e, day ≤ e → e ≤ n → (z j = e ↔ fx j = e))
theorem ws_ext (g : Nat → Nat) {k S : Nat} (h : S < 2 ^ k) : ∀ d, ws g (k + d) S = ws g k S
  | 0 => rfl
  | d + 1 => by
    have hp : 2 ^ k ≤ 2 ^ (k + d) := Nat.pow_le_pow_right (by decide) (by omega)
    rw [show k + (d + 1) = k + d + 1 by omega, ws_low g (by omega), ws_ext g h d]
theorem sm_merge {D day : Nat} {z z' : Nat → Nat} : ∀ m, (∀ j, j < m → z j = (if D.testBit j = true then day else 0) + z' j) → sm z m = day * ws (fun _ => 1) m D + sm z' m
  | 0, _ => by rw [show ws (fun _ => 1) 0 D = 0 from rfl, Nat.mul_zero]; rfl
  | m + 1, h => by
    have ih := sm_merge (D := D) (day := day) (z := z) (z' := z') m (fun j hj => h j (by omega))
    have h1 := h m (by omega)
    show sm z m + z m * 1 = day * (ws (fun _ => 1) m D + (if D.testBit m = true then 1 else 0)) + (sm z' m + z' m * 1)
    rw [ih, h1, Nat.mul_add]
    by_cases c : D.testBit m = true
    · rw [if_pos c, if_pos c]; omega
    · rw [if_neg c, if_neg c]; omega
theorem pc_M {D M : Nat} (hM : M ≤ 5) (h : D < 2 ^ M) : pc D = ws (fun _ => 1) M D := by
  have := ws_ext (fun _ => 1) h (11 - M)
  rw [show M + (11 - M) = 11 by omega] at this
  exact this
theorem or_lt2 {S T M : Nat} (h1 : S < 2 ^ M) (h2 : T < 2 ^ M) : S ||| T < 2 ^ M := Nat.or_lt_two_pow h1 h2
theorem bool_iff {a b : Bool} (h : a = true ↔ b = true) : a = b := by
  cases a <;> cases b <;> simp at h ⊢
theorem Fu_merge {P : Nat → Nat → Bool} {M n day S T : Nat} {fx z' : Nat → Nat} (hM : M ≤ 5) (hS : S < 2 ^ M) (hT : T < 2 ^ M) (hd1 : 1 ≤ day) (hdn : day ≤ n) (hmy : MY P M fx S T day) (hz : Fu P M n fx (day + 1) T z') : ∃ z, Fu P M n fx day S z ∧ sm z M = day * pc (dfN T S) + sm z' M := by
  obtain ⟨⟨hsub, hpay⟩, hfix⟩ := hmy
  obtain ⟨h1, h2, h3⟩ := hz
  have zD : ∀ j, j < M → (dfN T S).testBit j = true → z' j = 0 := fun j hj hb => by
    rw [dfN_bit, Bool.and_eq_true] at hb
    rcases h1 j hj with ⟨-, z⟩ | ⟨z, -⟩
    · exact z
    · rw [z] at hb; exact absurd hb.1 Bool.false_ne_true
  have zN : ∀ j, j < M → ¬ (dfN T S).testBit j = true → (S.testBit j = true ∧ T.testBit j = true ∧ z' j = 0) ∨ (S.testBit j = false ∧ T.testBit j = false ∧ day + 1 ≤ z' j ∧ z' j ≤ n) := fun j hj hb => by
    rw [dfN_bit] at hb
    rcases h1 j hj with ⟨a, z⟩ | ⟨a, z⟩
    · rw [a] at hb
      have : S.testBit j = true := by simpa using hb
      exact Or.inl ⟨this, a, z⟩
    · have : S.testBit j = false := by
        by_cases s : S.testBit j = true
        · rw [hsub j s] at a; cases a
        · simpa using s
      exact Or.inr ⟨this, a, z⟩
  refine ⟨fun j => (if (dfN T S).testBit j = true then day else 0) + z' j, ⟨fun j hj => ?_, fun e e1 e2 => ?_, fun j hj => ?_⟩, ?_⟩
  · show (_ ∧ (if (dfN T S).testBit j = true then day else 0) + z' j = 0) ∨ (_ ∧ day ≤ (if (dfN T S).testBit j = true then day else 0) + z' j ∧ (if (dfN T S).testBit j = true then day else 0) + z' j ≤ n)
    by_cases b : (dfN T S).testBit j = true
    · have z0 := zD j hj b
      rw [if_pos b]
      rw [dfN_bit, Bool.and_eq_true] at b
      right
      exact ⟨by simpa using b.2, by omega, by omega⟩
    · rw [if_neg b]
      rcases zN j hj b with ⟨a1, a2, a3⟩ | ⟨a1, a2, a3, a4⟩
      · exact Or.inl ⟨a1, by omega⟩
      · exact Or.inr ⟨a1, by omega, by omega⟩
  · have key : S ||| stX (fun j => (if (dfN T S).testBit j = true then day else 0) + z' j) M e = if e = day then T else T ||| stX z' M e := by
      refine ext_lt (L := M) (or_lt2 hS (stX_lt _ _ _)) (by split; exact hT; exact or_lt2 hT (stX_lt _ _ _)) (fun j hj => ?_)
      apply bool_iff
      rw [Nat.testBit_or, stX_bit, decide_eq_true hj, Bool.true_and, Bool.or_eq_true, decide_eq_true_eq]
      have rhs : ((if e = day then T else T ||| stX z' M e).testBit j = true) ↔ (T.testBit j = true ∨ (e ≠ day ∧ 1 ≤ z' j ∧ z' j ≤ e)) := by
        by_cases c : e = day
        · rw [if_pos c]
          exact ⟨Or.inl, fun z => z.elim id (fun z => absurd c z.1)⟩
        · rw [if_neg c, Nat.testBit_or, stX_bit, decide_eq_true hj, Bool.true_and, Bool.or_eq_true, decide_eq_true_eq]
          exact ⟨fun z => z.elim Or.inl (fun z => Or.inr ⟨c, z⟩), fun z => z.elim Or.inl (fun z => Or.inr z.2)⟩
      rw [rhs]
      by_cases b : (dfN T S).testBit j = true
      · have z0 := zD j hj b
        rw [if_pos b]
        rw [dfN_bit, Bool.and_eq_true] at b
        exact ⟨fun _ => Or.inl b.1, fun _ => Or.inr (by omega)⟩
      · rw [if_neg b]
        rcases zN j hj b with ⟨a1, a2, a3⟩ | ⟨a1, a2, a3, a4⟩
        · exact ⟨fun _ => Or.inl a2, fun _ => Or.inl a1⟩
        · rw [a1, a2]
          constructor
          · rintro (z | z)
            · cases z
            · exact Or.inr (by omega)
          · rintro (z | z)
            · cases z
            · exact Or.inr (by omega)
    rw [key]
    by_cases c : e = day
    · rw [if_pos c, c]; exact hpay
    · rw [if_neg c]; exact h2 e (by omega) e2
  · rcases hfix j hj with c | c
    · exact Or.inl c
    · rcases h3 j hj with c3 | c3
      · exact Or.inl c3
      · refine Or.inr (fun e e1 e2 => ?_)
        show (if (dfN T S).testBit j = true then day else 0) + z' j = e ↔ fx j = e
        by_cases b : (dfN T S).testBit j = true
        · have z0 := zD j hj b
          have f0 := c.mp b
          rw [if_pos b]
          omega
        · rw [if_neg b]
          have f0 : ¬ fx j = day := fun z => b (c.mpr z)
          by_cases ce : e = day
          · rcases zN j hj b with ⟨a1, a2, a3⟩ | ⟨a1, a2, a3, a4⟩ <;> omega
          · have := c3 e (by omega) e2
            omega
  · rw [pc_M hM (dfN_lt hT)]
    exact sm_merge M (fun j hj => rfl)
theorem Fu_split {P : Nat → Nat → Bool} {M n day S : Nat} {fx z : Nat → Nat} (hM : M ≤ 5) (hS : S < 2 ^ M) (hd1 : 1 ≤ day) (hdn : day ≤ n) (hz : Fu P M n fx day S z) : ∃ T z', T < 2 ^ M ∧ S ≤ T ∧ MY P M fx S T day ∧ Fu P M n fx (day + 1) T z' ∧ sm z M = day * pc (dfN T S) + sm z' M := by
  obtain ⟨h1, h2, h3⟩ := hz
  have hTl : S ||| stX z M day < 2 ^ M := or_lt2 hS (stX_lt _ _ _)
  have tb : ∀ j, j < M → ((S ||| stX z M day).testBit j = true ↔ (S.testBit j = true ∨ z j = day)) := fun j hj => by
    rw [Nat.testBit_or, stX_bit, decide_eq_true hj, Bool.true_and, Bool.or_eq_true, decide_eq_true_eq]
    rcases h1 j hj with ⟨a, b⟩ | ⟨a, b⟩
    · exact ⟨fun _ => Or.inl a, fun _ => Or.inl a⟩
    · rw [a]
      constructor
      · rintro (c | c)
        · cases c
        · exact Or.inr (by omega)
      · rintro (c | c)
        · cases c
        · exact Or.inr (by omega)
  have db : ∀ j, j < M → ((dfN (S ||| stX z M day) S).testBit j = true ↔ z j = day) := fun j hj => by
    rw [dfN_bit, Bool.and_eq_true, tb j hj]
    rcases h1 j hj with ⟨a, b⟩ | ⟨a, b⟩
    · rw [a]
      constructor
      · rintro ⟨-, c⟩; cases c
      · intro c; omega
    · rw [a]
      constructor
      · rintro ⟨c | c, -⟩
        · cases c
        · exact c
      · intro c; exact ⟨Or.inr c, rfl⟩
  refine ⟨S ||| stX z M day, fun j => if z j = day then 0 else z j, hTl, Nat.left_le_or, ⟨⟨fun i hi => by rw [Nat.testBit_or, hi]; rfl, h2 day (Nat.le_refl _) hdn⟩, fun i hi => ?_⟩, ⟨fun j hj => ?_, fun e e1 e2 => ?_, fun j hj => ?_⟩, ?_⟩
  · rcases h3 i hi with c | c
    · exact Or.inl c
    · exact Or.inr ((db i hi).trans (c day (Nat.le_refl _) hdn))
  · show (_ ∧ (if z j = day then 0 else z j) = 0) ∨ (_ ∧ day + 1 ≤ (if z j = day then 0 else z j) ∧ (if z j = day then 0 else z j) ≤ n)
    by_cases c : z j = day
    · rw [if_pos c]
      exact Or.inl ⟨(tb j hj).mpr (Or.inr c), rfl⟩
    · rw [if_neg c]
      rcases h1 j hj with ⟨a, b⟩ | ⟨a, b⟩
      · exact Or.inl ⟨(tb j hj).mpr (Or.inl a), b⟩
      · refine Or.inr ⟨?_, by omega, b.2⟩
        by_cases t : (S ||| stX z M day).testBit j = true
        · rcases (tb j hj).mp t with t | t
          · rw [a] at t; cases t
          · exact absurd t c
        · simpa using t
  · have key : (S ||| stX z M day) ||| stX (fun j => if z j = day then 0 else z j) M e = S ||| stX z M e := by
      refine ext_lt (L := M) (or_lt2 hTl (stX_lt _ _ _)) (or_lt2 hS (stX_lt _ _ _)) (fun j hj => ?_)
      apply bool_iff
      rw [Nat.testBit_or, Bool.or_eq_true, tb j hj, stX_bit, Nat.testBit_or, stX_bit, decide_eq_true hj, Bool.true_and, Bool.true_and, Bool.or_eq_true, decide_eq_true_eq, decide_eq_true_eq]
      show ((S.testBit j = true ∨ z j = day) ∨ 1 ≤ (if z j = day then 0 else z j) ∧ (if z j = day then 0 else z j) ≤ e) ↔ _
      by_cases c : z j = day
      · rw [if_pos c]
        constructor
        · rintro ((a | a) | a)
          · exact Or.inl a
          · exact Or.inr (by omega)
          · omega
        · intro _; exact Or.inl (Or.inr c)
      · rw [if_neg c]
        constructor
        · rintro ((a | a) | a)
          · exact Or.inl a
          · exact absurd a c
          · exact Or.inr a
        · rintro (a | a)
          · exact Or.inl (Or.inl a)
          · exact Or.inr a
    rw [key]
    exact h2 e (by omega) e2
  · rcases h3 j hj with c | c
    · exact Or.inl c
    · refine Or.inr (fun e e1 e2 => ?_)
      show (if z j = day then 0 else z j) = e ↔ fx j = e
      have c1 := c e (by omega) e2
      by_cases cz : z j = day
      · rw [if_pos cz]; omega
      · rw [if_neg cz]; exact c1
  · rw [pc_M hM (dfN_lt hTl)]
    refine sm_merge M (fun j hj => ?_)
    show z j = (if (dfN (S ||| stX z M day) S).testBit j = true then day else 0) + (if z j = day then 0 else z j)
    by_cases c : z j = day
    · rw [if_pos ((db j hj).mpr c), if_pos c]; omega
    · rw [if_neg (fun t => c ((db j hj).mp t)), if_neg c]; omega
theorem mxR_ge (f : Nat → Int) (a : Nat) : ∀ m i, i < m → f (a + i) ≤ mxR f a m
  | 0, i, h => absurd h (by omega)
  | m + 1, i, h => by
    show f (a + i) ≤ (if f (a + m) ≤ mxR f a m then mxR f a m else f (a + m))
    by_cases c : i = m
    · rw [c]; split <;> omega
    · have := mxR_ge f a m i (by omega)
      split <;> omega
theorem mxR_at (f : Nat → Int) (a : Nat) : ∀ m, mxR f a m = -1000000 ∨ ∃ i, i < m ∧ mxR f a m = f (a + i)
  | 0 => Or.inl rfl
  | m + 1 => by
    show (if f (a + m) ≤ mxR f a m then mxR f a m else f (a + m)) = -1000000 ∨ ∃ i, i < m + 1 ∧ (if f (a + m) ≤ mxR f a m then mxR f a m else f (a + m)) = f (a + i)
    by_cases c : f (a + m) ≤ mxR f a m
    · rw [if_pos c]
      rcases mxR_at f a m with h | ⟨i, h1, h2⟩
      · exact Or.inl h
      · exact Or.inr ⟨i, by omega, h2⟩
    · rw [if_neg c]; exact Or.inr ⟨m, by omega, rfl⟩
theorem lv_says {P : Nat → Nat → Bool} {M n : Nat} {fx : Nat → Nat} (hM : M ≤ 5) (hn : n ≤ 60) : ∀ k, k ≤ n → ∀ S, S < 2 ^ M → (∃ z, Fu P M n fx (n + 1 - k) S z ∧ lv P M n fx k S = (sm z M : Int) ∧ ∀ y, Fu P M n fx (n + 1 - k) S y → sm y M ≤ sm z M) ∨ ((∀ z, ¬ Fu P M n fx (n + 1 - k) S z) ∧ lv P M n fx k S ≤ -1000000 + 660 * (k : Int))
  | 0, _, S, hS => by
    have e0 : lv P M n fx 0 S = if S = 2 ^ M - 1 then 0 else -1000000 := rfl
    have hp0 := Nat.two_pow_pos M
    by_cases c : S = 2 ^ M - 1
    · left
      have sm0 : ∀ z : Nat → Nat, (∀ j, j < M → z j = 0) → sm z M = 0 := fun z hz => by
        have : ∀ m, m ≤ M → sm z m = 0 := fun m => by
          induction m with
          | zero => intro _; rfl
          | succ m ih =>
            intro hm
            show sm z m + z m * 1 = 0
            rw [ih (by omega), hz m (by omega)]
        exact this M (Nat.le_refl _)
      refine ⟨fun _ => 0, ⟨fun j hj => Or.inl ⟨by rw [c, Nat.testBit_two_pow_sub_one, decide_eq_true hj], rfl⟩, fun e e1 e2 => absurd e1 (by omega), fun j hj => Or.inr (fun e e1 e2 => absurd e1 (by omega))⟩, ?_, fun y hy => ?_⟩
      · rw [e0, if_pos c, sm0 _ (fun j _ => rfl)]; rfl
      · rw [sm0 y (fun j hj => ?_)]
        · exact Nat.zero_le _
        · rcases hy.1 j hj with z | z
          · exact z.2
          · omega
    · right
      refine ⟨fun z hz => c ?_, by rw [e0, if_neg c]; omega⟩
      refine ext_lt hS (show 2 ^ M - 1 < 2 ^ M by omega) (fun j hj => ?_)
      rw [Nat.testBit_two_pow_sub_one, decide_eq_true hj]
      rcases hz.1 j hj with a | a
      · exact a.1
      · omega
  | k + 1, hk, S, hS => by
    have ih := lv_says (P := P) (fx := fx) hM hn k (by omega)
    have ed : n + 1 - (k + 1) = n - k := by omega
    have ed2 : n + 1 - k = n - k + 1 := by omega
    rw [ed2] at ih
    rw [ed]
    have e0 : lv P M n fx (k + 1) S = mxR (cnd P M fx S (n - k) (lv P M n fx k)) S (2 ^ M - S) := rfl
    have cin : ∀ T, MY P M fx S T (n - k) → cnd P M fx S (n - k) (lv P M n fx k) T = ((n - k : Nat) : Int) * (pc (dfN T S) : Int) + lv P M n fx k T := fun T h => if_pos h
    have cout : ∀ T, ¬ MY P M fx S T (n - k) → cnd P M fx S (n - k) (lv P M n fx k) T = -1000000 := fun T h => if_neg h
    have ub : ∀ y, Fu P M n fx (n - k) S y → (sm y M : Int) ≤ lv P M n fx (k + 1) S := fun y hy => by
      obtain ⟨T, z', t1, t2, t3, t4, t5⟩ := Fu_split hM hS (by omega) (by omega) hy
      rcases ih T t1 with ⟨zT, a1, a2, a3⟩ | ⟨a1, -⟩
      · have h1 := mxR_ge (cnd P M fx S (n - k) (lv P M n fx k)) S (2 ^ M - S) (T - S) (by omega)
        rw [show S + (T - S) = T by omega, cin T t3, a2] at h1
        have h2 := a3 z' t4
        rw [e0]
        have h3 : (sm y M : Int) = ((n - k : Nat) : Int) * (pc (dfN T S) : Int) + (sm z' M : Int) := by
          rw [t5, Int.natCast_add, Int.natCast_mul]
        omega
      · exact absurd t4 (a1 z')
    by_cases hex : ∃ y, Fu P M n fx (n - k) S y
    · left
      obtain ⟨y, hy⟩ := hex
      have h1 := ub y hy
      rcases mxR_at (cnd P M fx S (n - k) (lv P M n fx k)) S (2 ^ M - S) with h2 | ⟨i, i1, i2⟩
      · rw [e0, h2] at h1; omega
      · by_cases hmy : MY P M fx S (S + i) (n - k)
        · have hTl : S + i < 2 ^ M := by omega
          rcases ih (S + i) hTl with ⟨zT, a1, a2, a3⟩ | ⟨a1, a2⟩
          · obtain ⟨z, z1, z2⟩ := Fu_merge hM hS hTl (by omega) (by omega) hmy a1
            have e9 : lv P M n fx (k + 1) S = (sm z M : Int) := by
              rw [e0, i2, cin _ hmy, a2, z2, Int.natCast_add, Int.natCast_mul]
            refine ⟨z, z1, e9, fun y' hy' => ?_⟩
            have := ub y' hy'
            rw [e9] at this
            omega
          · exfalso
            rw [e0, i2, cin _ hmy] at h1
            have h3 := pc_le (dfN (S + i) S)
            have h4 : (n - k) * pc (dfN (S + i) S) ≤ 60 * 11 := Nat.mul_le_mul (by omega) h3
            have h5 : ((n - k : Nat) : Int) * ((pc (dfN (S + i) S) : Nat) : Int) ≤ 660 := by
              rw [← Int.natCast_mul]; omega
            omega
        · exfalso
          rw [e0, i2, cout _ hmy] at h1
          omega
    · right
      refine ⟨fun z hz => hex ⟨z, hz⟩, ?_⟩
      rw [e0]
      refine (mxR_bd (by omega) (2 ^ M - S) (fun i hi => ?_)).2
      by_cases hmy : MY P M fx S (S + i) (n - k)
      · have hTl : S + i < 2 ^ M := by omega
        rw [cin _ hmy]
        rcases ih (S + i) hTl with ⟨zT, a1, -, -⟩ | ⟨-, a2⟩
        · obtain ⟨z, z1, -⟩ := Fu_merge hM hS hTl (by omega) (by omega) hmy a1
          exact absurd ⟨z, z1⟩ hex
        · have h3 := pc_le (dfN (S + i) S)
          have h4 : (n - k) * pc (dfN (S + i) S) ≤ 60 * 11 := Nat.mul_le_mul (by omega) h3
          have h5 : ((n - k : Nat) : Int) * ((pc (dfN (S + i) S) : Nat) : Int) ≤ 660 := by
            rw [← Int.natCast_mul]; omega
          omega
      · rw [cout _ hmy]; omega
