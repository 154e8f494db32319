/-! two -/
def PAt (g : Nat → Nat) (L a b : Nat) : Prop := ∃ S T, S < 2 ^ L ∧ T < 2 ^ L ∧ S &&& T = 0 ∧ ws g L S = a ∧ ws g L T = b
theorem and0 {S T : Nat} : S &&& T = 0 ↔ ∀ i, ¬ (S.testBit i = true ∧ T.testBit i = true) := by
  constructor
  · rintro h i ⟨a, b⟩
    have := congrArg (fun z => z.testBit i) h
    simp only [Nat.testBit_and, a, b, Nat.zero_testBit] at this
    cases this
  · intro h
    apply Nat.eq_of_testBit_eq
    intro i
    have := h i
    rw [Nat.testBit_and, Nat.zero_testBit]
    revert this
    cases S.testBit i <;> cases T.testBit i <;> simp
theorem ws_disj {g : Nat → Nat} {S T : Nat} (h : S &&& T = 0) : ∀ k, ws g k S + ws g k T ≤ pre g k
  | 0 => Nat.le_refl _
  | k + 1 => by
    have ih := ws_disj (g := g) h k
    have hk := and0.mp h k
    show ws g k S + (if S.testBit k = true then g k else 0) + (ws g k T + (if T.testBit k = true then g k else 0)) ≤ pre g k + g k
    by_cases s : S.testBit k = true
    · rw [if_pos s, if_neg (fun t => hk ⟨s, t⟩)]; omega
    · rw [if_neg s]
      split <;> omega
theorem PAt_le {g : Nat → Nat} {L a b : Nat} (h : PAt g L a b) : a + b ≤ pre g L := by
  obtain ⟨S, T, -, -, h3, rfl, rfl⟩ := h
  exact ws_disj h3 L
theorem andC {S T : Nat} (hS : S < 2 ^ 31) : (nI S &&& nI T = 0) ↔ S &&& T = 0 := by
  rw [and_n, show (0 : Int32) = nI 0 from rfl]
  have : S &&& T ≤ S := Nat.and_le_left
  exact nI_eq (by omega) (by decide)
theorem apart1 {order : Nat → Int32} {G : Nat → Nat} {b len p S : Nat} (hb : b + len ≤ 2048) (ho : ∀ i, i < len → order (b + i) = nI (G i)) (hp : p < 2048) (hS : S < 2 ^ 31) (h4 : order p = nI S) (kx : Int32 → Option Int32) : (L_X6_paysApart_42 order (nI (b + len)) (nI p) kx FUEL (nI b) = some 1 ∧ ∃ i, i < len ∧ S &&& G i = 0) ∨ (L_X6_paysApart_42 order (nI (b + len)) (nI p) kx FUEL (nI b) = kx (nI (b + len)) ∧ ∀ i, i < len → ¬ S &&& G i = 0) := by
  unfold L_X6_paysApart_42
  refine upQ0 _ (fun o => (o = some 1 ∧ ∃ i, i < len ∧ S &&& G i = 0) ∨ (o = kx (nI (b + len)) ∧ ∀ i, i < len → ¬ S &&& G i = 0)) (b + len) (fun j => b ≤ j ∧ ∀ i, i < j - b → ¬ S &&& G i = 0) (by omega) ?_ ?_ (j := b) (by omega) ⟨Nat.le_refl _, fun i hi => absurd hi (by omega)⟩
  · rintro j hj ⟨hj0, hI⟩
    obtain ⟨i, rfl⟩ : ∃ i, j = b + i := ⟨j - b, by omega⟩
    rw [show b + i - b = i by omega] at hI
    have hcode : ∀ rec, LB_X6_paysApart_42 order (nI (b + len)) (nI p) kx rec (nI (b + i)) = if S &&& G i = 0 then some 1 else rec (nI (b + i + 1)) := fun rec => by
      unfold LB_X6_paysApart_42
      rw [if_neg (nI_ge (by omega) (by omega)), ob_t (inb_nI (by omega) (by decide)), ob_t (inb_nI (by omega) (by decide)), nI_clamp (by omega), nI_clamp (by omega), h4, ho i (by omega), nI_1]
      by_cases c : S &&& G i = 0
      · rw [if_pos c, if_pos ((andC hS).mpr c)]
      · rw [if_neg c, if_neg (fun z => c ((andC hS).mp z))]
    by_cases c : S &&& G i = 0
    · exact Or.inl (fun rec => Or.inl ⟨(hcode rec).trans (if_pos c), i, by omega, c⟩)
    · refine Or.inr ⟨⟨by omega, fun k hk => ?_⟩, fun rec => (hcode rec).trans (if_neg c)⟩
      by_cases e : k = i
      · rw [e]; exact c
      · exact hI k (by omega)
  · rintro ⟨-, hI⟩ rec
    rw [show b + len - b = len by omega] at hI
    refine Or.inr ⟨?_, hI⟩
    show LB_X6_paysApart_42 _ _ _ _ rec (nI (b + len)) = _
    unfold LB_X6_paysApart_42
    rw [if_pos (nI_le (Nat.le_refl _) (by omega))]
theorem paysApart_ok {g : Nat → Nat} {L : Nat} (hL : L ≤ 11) (hg : pre g L ≤ 216) {ends order : Nat → Int32} (hG : GS (ws g L) (2 ^ L) (nI (pre g L)) ends order) {a b : Nat} (ha : a < 2 ^ 29) (hb : b < 2 ^ 29) : ∃ z, f_X6_paysApart (nI (pre g L)) ends order (nI a) (nI b) = some z ∧ tf z (PAt g L a b) := by
  have hN := p11 hL
  obtain ⟨p, e1, e2, h1, h2⟩ := hG a (by omega)
  obtain ⟨q, k1, k2, k3, k4⟩ := hG b (by omega)
  unfold f_X6_paysApart
  rw [nI_add]
  by_cases c : a + b ≤ pre g L
  · rw [if_pos (nI_le c (by omega)), k2, Option.bind_some, e1, Option.bind_some]
    unfold L_X6_paysApart_25
    refine loopR _ (fun o => ∃ z, o = some z ∧ tf z (PAt g L a b)) (fun m t => ∃ i, t = nI (p + i) ∧ i ≤ (grp (ws g L) a (2 ^ L)).length ∧ m = (grp (ws g L) a (2 ^ L)).length - i ∧ ∀ k, k < i → ∀ T, T ∈ grp (ws g L) b (2 ^ L) → ¬ (grp (ws g L) a (2 ^ L)).getD k 0 &&& T = 0) ?_ FUEL (grp (ws g L) a (2 ^ L)).length _ ⟨0, rfl, Nat.zero_le _, rfl, fun k hk => absurd hk (by omega)⟩ (fuel_lt (by omega))
    rintro m t ⟨i, rfl, hi, rfl, hI⟩ rec
    by_cases e : i = (grp (ws g L) a (2 ^ L)).length
    · subst e
      refine Or.inl ⟨0, ?_, Or.inr ⟨rfl, ?_⟩⟩
      · show LB_X6_paysApart_25 _ _ _ _ _ _ _ rec (nI _) = _
        unfold LB_X6_paysApart_25
        rw [e2, Option.bind_some, if_pos (nI_le (Nat.le_refl _) (by omega))]
        rfl
      · rintro ⟨S, T, s1, t1, st, s2, t2⟩
        obtain ⟨k, hk, ek⟩ := mem_gD ((grp_mem (ws g L) a (2 ^ L) S).mpr ⟨s1, s2⟩)
        exact hI k hk T ((grp_mem (ws g L) b (2 ^ L) T).mpr ⟨t1, t2⟩) (by rw [ek]; exact st)
    · have hil : i < (grp (ws g L) a (2 ^ L)).length := by omega
      have hS := gD_grp hil
      have ho := h2 i hil
      have hcode : LB_X6_paysApart_25 (nI (pre g L)) ends order (nI a) (nI b) (nI (q + (grp (ws g L) b (2 ^ L)).length)) (fun t => B_X6_paysApart_80) rec (nI (p + i)) = L_X6_paysApart_42 order (nI (q + (grp (ws g L) b (2 ^ L)).length)) (nI (p + i)) (fun t => B_X6_paysApart_74 (fun t => B_X6_paysApart_80) rec (nI (p + i))) FUEL (nI q) := by
        unfold LB_X6_paysApart_25
        rw [e2, Option.bind_some, if_neg (nI_ge (by omega) (by omega)), k1, Option.bind_some]
      rcases apart1 (G := fun i => (grp (ws g L) b (2 ^ L)).getD i 0) k3 k4 (show p + i < 2048 by omega) (show (grp (ws g L) a (2 ^ L)).getD i 0 < 2 ^ 31 by omega) ho (fun t => B_X6_paysApart_74 (fun t => B_X6_paysApart_80) rec (nI (p + i))) with ⟨x1, j, j1, j2⟩ | ⟨x1, x2⟩
      · refine Or.inl ⟨1, hcode.trans x1, Or.inl ⟨rfl, _, _, hS.1, (gD_grp j1).1, j2, hS.2, (gD_grp j1).2⟩⟩
      · refine Or.inr ⟨(grp (ws g L) a (2 ^ L)).length - (i + 1), nI (p + i + 1), by omega, ⟨i + 1, rfl, by omega, rfl, fun k hk T hT => ?_⟩, hcode.trans (x1.trans ?_)⟩
        · by_cases c2 : k = i
          · obtain ⟨j, j1, j2⟩ := mem_gD hT
            rw [c2, ← j2]
            exact x2 j j1
          · exact hI k (by omega) T hT
        · show B_X6_paysApart_74 _ rec (nI (p + i)) = _
          unfold B_X6_paysApart_74
          rw [nI_1]
  · rw [if_neg (nI_ge (by omega) (by omega))]
    exact ⟨0, rfl, Or.inr ⟨rfl, fun h => c (PAt_le h)⟩⟩
theorem PAt_0 (g : Nat → Nat) (L : Nat) : PAt g L 0 0 := ⟨0, 0, Nat.two_pow_pos L, Nat.two_pow_pos L, rfl, ws_0 g L, ws_0 g L⟩
theorem daysApart_ok {g : Nat → Nat} {L : Nat} {D : Nat → Nat} {r : Nat} (hL : L ≤ 11) (hg : pre g L ≤ 216) (h0 : D 0 = 0) (hD : ∀ d, d ≤ 60 → D d < 2 ^ 29) (hr : r ≤ 9) {ends order : Nat → Int32} (hG : GS (ws g L) (2 ^ L) (nI (pre g L)) ends order) {dues : Nat → Int32} (hd : ∀ d, d ≤ 60 → dues d = nI (D d)) : ∃ a, f_X6_daysApart 61 (nI (pre g L)) ends order dues (nI r) = some (nI a) ∧ AnsD (fun d => PAt g L (D d) (r * d)) a := by
  unfold f_X6_daysApart L_X6_daysApart_2
  refine upQ0 _ (fun o => ∃ a, o = some (nI a) ∧ AnsD (fun d => PAt g L (D d) (r * d)) a) 60 (fun d => ∀ d', d' ≤ d → PAt g L (D d') (r * d')) (by decide) ?_ ?_ (j := 0) (by omega) (fun d' hd' => by rw [show d' = 0 by omega, h0, Nat.mul_zero]; exact PAt_0 g L)
  · intro d hd60 hI
    have hrd : r * (d + 1) ≤ 9 * (d + 1) := Nat.mul_le_mul_right _ hr
    obtain ⟨z, ez, hz⟩ := paysApart_ok hL hg hG (a := D (d + 1)) (b := r * (d + 1)) (hD _ (by omega)) (by omega)
    have hcode : ∀ rec, LB_X6_daysApart_2 61 (nI (pre g L)) ends order dues (nI r) (fun t => B_X6_daysApart_31 t) rec (nI d) = if z = 0 then some (nI d) else rec (nI (d + 1)) := fun rec => by
      unfold LB_X6_daysApart_2 B_X6_daysApart_31
      rw [if_neg (show ¬ (60 : Int32) ≤ nI d from nI_ge (b := 60) hd60 (by decide)), nI_1, ob_t (inb_nI (by omega) (by decide)), nI_clamp (by omega), hd _ (by omega), pk_mul, ez, Option.bind_some]
    rcases hz with ⟨rfl, hz⟩ | ⟨rfl, hz⟩
    · refine Or.inr ⟨fun d' hd' => ?_, fun rec => (hcode rec).trans (if_neg n10)⟩
      by_cases e : d' = d + 1
      · rw [e]; exact hz
      · exact hI d' (by omega)
    · exact Or.inl (fun rec => ⟨d, (hcode rec).trans (if_pos rfl), by omega, hI, fun _ => hz⟩)
  · intro hI rec
    refine ⟨60, ?_, Nat.le_refl _, hI, fun z => absurd z (by omega)⟩
    show LB_X6_daysApart_2 _ _ _ _ _ _ _ rec (nI 60) = _
    unfold LB_X6_daysApart_2
    rw [if_pos (by decide)]
    rfl
theorem split2 {p S : Nat} (h : S < 2 ^ (p + 1)) : S < 2 ^ p ∨ ∃ S', S' < 2 ^ p ∧ S = 2 ^ p + S' := by
  have hpp : 2 ^ (p + 1) = 2 ^ p + 2 ^ p := by rw [Nat.pow_succ]; omega
  by_cases c : S < 2 ^ p
  · exact Or.inl c
  · exact Or.inr ⟨S - 2 ^ p, by omega, by omega⟩
theorem tb_hi {p S : Nat} (h : S < 2 ^ p) (i : Nat) : (2 ^ p + S).testBit i = (decide (i = p) || S.testBit i) := by
  have := Nat.testBit_two_pow_mul_add 1 h i
  rw [Nat.mul_one] at this
  rw [this]
  by_cases c : i < p
  · rw [if_pos c, decide_eq_false (show ¬ i = p by omega)]; simp
  · have hp : 2 ^ p ≤ 2 ^ i := Nat.pow_le_pow_right (by decide) (by omega)
    rw [if_neg c, Nat.testBit_lt_two_pow (show S < 2 ^ i by omega)]
    by_cases e : i = p
    · rw [e, Nat.sub_self]; simp
    · rw [decide_eq_false e, show (1 : Nat) = 2 ^ 0 from rfl, Nat.testBit_two_pow, decide_eq_false (show ¬ 0 = i - p by omega)]; rfl
theorem and_hi {p S T : Nat} (hS : S < 2 ^ p) (hT : T < 2 ^ p) : (2 ^ p + S) &&& T = 0 ↔ S &&& T = 0 := by
  rw [and0, and0]
  constructor
  · rintro h i ⟨a, b⟩
    exact h i ⟨by rw [tb_hi hS, a]; simp, b⟩
  · rintro h i ⟨a, b⟩
    rw [tb_hi hS, Bool.or_eq_true] at a
    rcases a with a | a
    · have e := of_decide_eq_true a
      rw [e, tb_lt hT] at b
      cases b
    · exact h i ⟨a, b⟩
theorem PAt_step {g : Nat → Nat} {p a b : Nat} : PAt g (p + 1) a b ↔ (PAt g p a b ∨ (g p ≤ a ∧ PAt g p (a - g p) b) ∨ (g p ≤ b ∧ PAt g p a (b - g p))) := by
  have hpp : 2 ^ (p + 1) = 2 ^ p + 2 ^ p := by rw [Nat.pow_succ]; omega
  constructor
  · rintro ⟨S, T, s1, t1, st, rfl, rfl⟩
    rcases split2 s1 with s2 | ⟨S', s2, rfl⟩
    · rcases split2 t1 with t2 | ⟨T', t2, rfl⟩
      · exact Or.inl ⟨S, T, s2, t2, st, (ws_low g s2).symm, (ws_low g t2).symm⟩
      · refine Or.inr (Or.inr ⟨by rw [ws_high g t2]; omega, S, T', s2, t2, ?_, (ws_low g s2).symm, by rw [ws_high g t2]; omega⟩)
        rw [Nat.and_comm] at st ⊢
        exact (and_hi t2 s2).mp st
    · rcases split2 t1 with t2 | ⟨T', t2, rfl⟩
      · exact Or.inr (Or.inl ⟨by rw [ws_high g s2]; omega, S', T, s2, t2, (and_hi s2 t2).mp st, by rw [ws_high g s2]; omega, (ws_low g t2).symm⟩)
      · exact absurd ⟨by rw [tb_hi s2, decide_eq_true rfl]; rfl, by rw [tb_hi t2, decide_eq_true rfl]; rfl⟩ (and0.mp st p)
  · rintro (⟨S, T, s1, t1, st, rfl, rfl⟩ | ⟨h, S, T, s1, t1, st, hs, rfl⟩ | ⟨h, S, T, s1, t1, st, rfl, ht⟩)
    · exact ⟨S, T, by omega, by omega, st, ws_low g s1, ws_low g t1⟩
    · exact ⟨2 ^ p + S, T, by omega, by omega, (and_hi s1 t1).mpr st, by rw [ws_high g s1]; omega, ws_low g t1⟩
    · exact ⟨S, 2 ^ p + T, by omega, by omega, by rw [Nat.and_comm] at st ⊢; exact (and_hi t1 s1).mpr st, ws_low g s1, by rw [ws_high g t1]; omega⟩
/-! two: the reference -/
theorem twoRow {g : Nat → Nat} {p a : Nat} (hp : p < 11) (ha : a ≤ 216) (hg1 : 1 ≤ g p) (hg2 : g p ≤ 216) {v pr : Nat → Int32} (hv : v p = nI (g p)) (h : ∀ a' b, a' ≤ a → b ≤ 216 → tf (pr (217 * a' + b)) (PAt g p a' b)) (kx : Int32 × (Nat → Int32) → Option (Int32 × Int32 × (Nat → Int32) × (Nat → Int32) × (Nat → Int32) × (Nat → Int32) × (Nat → Int32))) : ∃ pr', ((∀ b, b ≤ 216 → tf (pr' (217 * a + b)) (PAt g (p + 1) a b)) ∧ ∀ x, (x < 217 * a ∨ 217 * a + 217 ≤ x) → pr' x = pr x) ∧ L_X11_two_74 v (nI p) (nI a) kx FUEL (216, pr) = kx (-1, pr') := by
  unfold L_X11_two_74
  obtain ⟨pr', ⟨h1, -, h3⟩, q⟩ := dnK (fun rec t => LB_X11_two_74 v (nI p) (nI a) kx rec t.1 t.2) kx 217 (fun m f => (∀ b, m ≤ b → b ≤ 216 → tf (f (217 * a + b)) (PAt g (p + 1) a b)) ∧ (∀ b, b < m → tf (f (217 * a + b)) (PAt g p a b)) ∧ ∀ x, (x < 217 * a ∨ 217 * a + 217 ≤ x) → f x = pr x) (by decide) (fun b f hb hI rec => by
      obtain ⟨i1, i2, i3⟩ := hI
      have ix : inb (nI (217 * a + b)) 47089 = true := inb_nI (by omega) (by decide)
      have ip : inb (nI p) 24 = true := inb_nI (by omega) (by decide)
      have em : (217 : Int32) * nI a + nI b = nI (217 * a + b) := by
        rw [show (217 : Int32) * nI a = nI (217 * a) from pk_mul 217 a, nI_add]
      have fin : ∀ y : Int32, tf y (PAt g (p + 1) a b) → ∃ s', ((∀ b', b ≤ b' → b' ≤ 216 → tf (s' (217 * a + b')) (PAt g (p + 1) a b')) ∧ (∀ b', b' < b → tf (s' (217 * a + b')) (PAt g p a b')) ∧ ∀ x, (x < 217 * a ∨ 217 * a + 217 ≤ x) → s' x = pr x) ∧ B_X11_two_183 kx rec f (nI a) (nI b) y = rec (nI b + (-1 : Int32), s') := fun y hy => by
        have ny : vp_nar .boolean y = y := by
          rcases hy with ⟨rfl, -⟩ | ⟨rfl, -⟩
          · rfl
          · rfl
        unfold B_X11_two_183
        rw [em, ob_t ix, nI_clamp (by omega), ny]
        refine ⟨_, ⟨fun b' h1 h2 => ?_, fun b' h1 => ?_, fun x hx => ?_⟩, rfl⟩
        · by_cases e : b' = b
          · rw [e, pk_us]; exact hy
          · rw [pk_un (by omega)]; exact i1 b' (by omega) h2
        · rw [pk_un (by omega)]; exact i2 b' (by omega)
        · rw [pk_un (by omega)]; exact i3 x hx
      show ∃ s', _ ∧ LB_X11_two_74 _ _ _ _ rec (nI b) f = _
      unfold LB_X11_two_74 B_X11_two_136 B_X11_two_132 B_X11_two_137 B_X11_two_182 B_X11_two_178
      have nb : ¬ nI b < 0 := nI_pos (by omega)
      rw [if_neg nb, em, ob_t ix, nI_clamp (show 217 * a + b < 2 ^ 31 by omega), if_neg n10, if_pos rfl, ob_t ip, ob_t ip, ob_t ip, ob_t ip, nI_clamp (show p < 2 ^ 31 by omega), hv]
      have hrow : (g p ≤ a → tf (f (217 * (a - g p) + b)) (PAt g p (a - g p) b)) := fun hle => by
        rw [i3 _ (by omega)]; exact h _ _ (by omega) (by omega)
      have hsec : ¬ PAt g p a b → ¬ (g p ≤ a ∧ PAt g p (a - g p) b) → ∃ s', ((∀ b', b ≤ b' → b' ≤ 216 → tf (s' (217 * a + b')) (PAt g (p + 1) a b')) ∧ (∀ b', b' < b → tf (s' (217 * a + b')) (PAt g p a b')) ∧ ∀ x, (x < 217 * a ∨ 217 * a + 217 ≤ x) → s' x = pr x) ∧ (if nI b < nI (g p) then B_X11_two_183 kx rec f (nI a) (nI b) 0 else ob (inb (nI (217 * a + b) - nI (g p)) 47089) (if f (nI (217 * a + b) - nI (g p)).toNatClampNeg = 0 then B_X11_two_183 kx rec f (nI a) (nI b) 0 else B_X11_two_183 kx rec f (nI a) (nI b) 1)) = rec (nI b + (-1 : Int32), s') := fun n1 n2 => by
        by_cases c : b < g p
        · rw [if_pos (nI_lt c (by omega))]
          exact fin 0 (Or.inr ⟨rfl, fun z => by
            rcases PAt_step.mp z with z | z | z
            · exact n1 z
            · exact n2 z
            · omega⟩)
        · rw [if_neg (nI_nlt (by omega) (by omega)), pk_sub (by omega), ob_t (inb_nI (by omega) (by decide)), nI_clamp (by omega), show 217 * a + b - g p = 217 * a + (b - g p) by omega]
          rcases i2 (b - g p) (by omega) with ⟨e2, c2⟩ | ⟨e2, c2⟩
          · rw [e2, if_neg n10]
            exact fin 1 (Or.inl ⟨rfl, PAt_step.mpr (Or.inr (Or.inr ⟨by omega, c2⟩))⟩)
          · rw [e2, if_pos rfl]
            exact fin 0 (Or.inr ⟨rfl, fun z => by
              rcases PAt_step.mp z with z | z | z
              · exact n1 z
              · exact n2 z
              · exact c2 z.2⟩)
      rcases i2 b (by omega) with ⟨e1, c1⟩ | ⟨e1, c1⟩
      · rw [e1, if_neg n10]
        exact fin 1 (Or.inl ⟨rfl, PAt_step.mpr (Or.inl c1)⟩)
      · rw [e1, if_pos rfl]
        by_cases c : a < g p
        · rw [if_pos (nI_lt c (by omega))]
          exact hsec c1 (fun z => by omega)
        · have e5 : (217 : Int32) * (nI a - nI (g p)) + nI b = nI (217 * (a - g p) + b) := by
            rw [pk_sub (by omega), show (217 : Int32) * nI (a - g p) = nI (217 * (a - g p)) from pk_mul 217 _, nI_add]
          rw [if_neg (nI_nlt (by omega) (by omega)), e5, ob_t (inb_nI (by omega) (by decide)), nI_clamp (show 217 * (a - g p) + b < 2 ^ 31 by omega)]
          rcases hrow (by omega) with ⟨e2, c2⟩ | ⟨e2, c2⟩
          · rw [e2, if_neg n10]
            exact fin 1 (Or.inl ⟨rfl, PAt_step.mpr (Or.inr (Or.inl ⟨by omega, c2⟩))⟩)
          · rw [e2, if_pos rfl]
            exact hsec c1 (fun z => c2 z.2)) (fun f _ rec => by
      show LB_X11_two_74 _ _ _ _ rec (-1) f = _
      unfold LB_X11_two_74
      rw [if_pos (by decide)]) (s := pr) ⟨fun b h1 h2 => absurd h1 (by omega), fun b hb => h a b (Nat.le_refl _) (by omega), fun x _ => rfl⟩
  exact ⟨pr', ⟨fun b hb => h1 b (by omega) hb, h3⟩, q⟩
theorem twoPiece {g : Nat → Nat} {p : Nat} (hp : p < 11) (hg1 : 1 ≤ g p) (hg2 : g p ≤ 216) {v pr : Nat → Int32} (hv : v p = nI (g p)) (h : ∀ a b, a ≤ 216 → b ≤ 216 → tf (pr (217 * a + b)) (PAt g p a b)) (kx : Int32 × (Nat → Int32) → Option (Int32 × Int32 × (Nat → Int32) × (Nat → Int32) × (Nat → Int32) × (Nat → Int32) × (Nat → Int32))) : ∃ pr', (∀ a b, a ≤ 216 → b ≤ 216 → tf (pr' (217 * a + b)) (PAt g (p + 1) a b)) ∧ L_X11_two_65 v (nI p) kx FUEL (216, pr) = kx (-1, pr') := by
  unfold L_X11_two_65
  obtain ⟨pr', ⟨h1, -⟩, q⟩ := dnK (fun rec t => LB_X11_two_65 v (nI p) kx rec t.1 t.2) kx 217 (fun m f => (∀ a b, m ≤ a → a ≤ 216 → b ≤ 216 → tf (f (217 * a + b)) (PAt g (p + 1) a b)) ∧ ∀ a b, a < m → b ≤ 216 → tf (f (217 * a + b)) (PAt g p a b)) (by decide) (fun a f ha hI rec => by
      obtain ⟨i1, i2⟩ := hI
      obtain ⟨f', ⟨r1, r2⟩, q⟩ := twoRow hp (show a ≤ 216 by omega) hg1 hg2 hv (fun a' b h1 h2 => i2 a' b (by omega) h2) (fun t => B_X11_two_206 kx rec t.2 (nI a))
      refine ⟨f', ⟨fun a' b h1 h2 h3 => ?_, fun a' b h1 h2 => ?_⟩, ?_⟩
      · by_cases e : a' = a
        · rw [e]; exact r1 b h3
        · rw [r2 _ (by omega)]; exact i1 a' b (by omega) h2 h3
      · rw [r2 _ (by omega)]; exact i2 a' b (by omega) h2
      · show LB_X11_two_65 _ _ _ rec (nI a) f = _
        unfold LB_X11_two_65
        rw [if_neg (nI_pos (by omega)), q]
        rfl) (fun f _ rec => by
      show LB_X11_two_65 _ _ _ rec (-1) f = _
      unfold LB_X11_two_65
      rw [if_pos (by decide)]) (s := pr) ⟨fun a b h1 h2 => absurd h1 (by omega), fun a b h1 h2 => h a b (by omega) h2⟩
  exact ⟨pr', fun a b h2 h3 => h1 a b (by omega) h2 h3, q⟩
theorem PAt_z {g : Nat → Nat} {a b : Nat} : PAt g 0 a b ↔ (a = 0 ∧ b = 0) := by
  constructor
  · rintro ⟨S, T, -, -, -, rfl, rfl⟩; exact ⟨rfl, rfl⟩
  · rintro ⟨rfl, rfl⟩; exact PAt_0 g 0
theorem twoM_ok {g : Nat → Nat} {L : Nat} {D : Nat → Nat} {r : Nat} (hL : L ≤ 11) (hg1 : ∀ i, i < L → 1 ≤ g i) (hg : pre g L ≤ 216) (h0 : D 0 = 0) (hD : ∀ d, d ≤ 60 → D d < 2 ^ 29) (hr : r ≤ 9) {dues f s v : Nat → Int32} (hd : ∀ d, d ≤ 60 → dues d = nI (D d)) (hv : ∀ i, i < L → v i = nI (g i)) (pr : Nat → Int32) : ∃ a pr', L_X11_two_24 (fun t => B_X11_two_51 (nI L) dues f s v t.2 (nI r)) FUEL (0, pr) = some (nI a, nI L, dues, f, s, v, pr') ∧ AnsD (fun d => PAt g L (D d) (r * d)) a := by
  unfold L_X11_two_24
  obtain ⟨p1, h1, q1⟩ := upK (fun rec t => LB_X11_two_24 (fun t => B_X11_two_51 (nI L) dues f s v t.2 (nI r)) rec t.1 t.2) (fun t => B_X11_two_51 (nI L) dues f s v t.2 (nI r)) 47089 (fun j l => ∀ x, x < j → tf (l x) (x = 0)) (by decide) (fun j l hj hI rec => by
      have ij : inb (nI j) 47089 = true := inb_nI (by omega) (by decide)
      show ∃ s', _ ∧ LB_X11_two_24 _ rec (nI j) l = _
      unfold LB_X11_two_24 B_X11_two_44
      rw [if_neg (show ¬ (47089 : Int32) ≤ nI j from nI_ge (b := 47089) hj (by decide)), ob_t ij, ob_t ij, nI_clamp (by omega), nI_1, nar1, nar0]
      by_cases c : j = 0
      · rw [if_pos (by rw [c]; rfl)]
        refine ⟨_, fun S hS => ?_, rfl⟩
        rw [show S = j by omega, pk_us, c]
        exact Or.inl ⟨rfl, rfl⟩
      · rw [if_neg (nI_nz (by omega) c)]
        refine ⟨_, fun S hS => ?_, rfl⟩
        by_cases e : S = j
        · rw [e, pk_us]; exact Or.inr ⟨rfl, c⟩
        · rw [pk_un e]; exact hI S (by omega)) (fun l _ rec => by
      show LB_X11_two_24 _ rec (nI 47089) l = _
      unfold LB_X11_two_24
      rw [if_pos (by decide)]) (j := 0) (s := pr) (by omega) (fun x hx => absurd hx (by omega))
  refine (Exists.imp fun a => Exists.imp fun p' => And.imp_left fun z => q1.trans z) ?_
  unfold B_X11_two_51 L_X11_two_53
  obtain ⟨p2, h2, q2⟩ := upK (fun rec t => LB_X11_two_53 (nI L) v (fun t => B_X11_two_218 (nI L) dues f s v t.2 (nI r)) rec t.1 t.2) (fun t => B_X11_two_218 (nI L) dues f s v t.2 (nI r)) L (fun p l => ∀ a b, a ≤ 216 → b ≤ 216 → tf (l (217 * a + b)) (PAt g p a b)) (by omega) (fun p l hp hI rec => by
      have hgp : g p ≤ 216 := by have := pre_one g L p hp; omega
      obtain ⟨l', i1, q⟩ := twoPiece (show p < 11 by omega) (hg1 p hp) hgp (hv p hp) hI (fun t => B_X11_two_212 (fun t => B_X11_two_218 (nI L) dues f s v t.2 (nI r)) rec t.2 (nI p))
      refine ⟨l', i1, ?_⟩
      show LB_X11_two_53 _ _ _ rec (nI p) l = _
      unfold LB_X11_two_53
      rw [if_neg (nI_ge hp (by omega)), q]
      unfold B_X11_two_212
      rw [nI_1]) (fun l _ rec => by
      show LB_X11_two_53 _ _ _ rec (nI L) l = _
      unfold LB_X11_two_53
      rw [if_pos (nI_le (Nat.le_refl _) (by omega))]) (j := 0) (s := p1) (by omega) (fun a b ha hb => tf_congr ⟨fun z => PAt_z.mpr (by omega), fun z => by have := PAt_z.mp z; omega⟩ (h1 (217 * a + b) (by omega)))
  refine (Exists.imp fun a => Exists.imp fun p' => And.imp_left fun z => q2.trans z) ?_
  unfold B_X11_two_218 L_X11_two_220
  refine (Exists.imp fun a => fun z => ⟨p2, z⟩) ?_
  refine upQ0 _ (fun o => ∃ a, o = some (nI a, nI L, dues, f, s, v, p2) ∧ AnsD (fun d => PAt g L (D d) (r * d)) a) 60 (fun d => ∀ d', d' ≤ d → PAt g L (D d') (r * d')) (by decide) ?_ ?_ (j := 0) (by omega) (fun d' hd' => by rw [show d' = 0 by omega, h0, Nat.mul_zero]; exact PAt_0 g L)
  · intro d hd60 hI
    have hrd : r * (d + 1) ≤ 9 * (d + 1) := Nat.mul_le_mul_right _ hr
    have hDd := hD (d + 1) (by omega)
    have ib : inb (nI (d + 1)) 61 = true := inb_nI (by omega) (by decide)
    have stop : ¬ PAt g L (D (d + 1)) (r * (d + 1)) → AnsD (fun d => PAt g L (D d) (r * d)) d := fun hn => ⟨by omega, hI, fun _ => hn⟩
    have big : ∀ a b, ¬ a < 217 → ¬ PAt g L a b := fun a b h z => by have := PAt_le z; omega
    have big2 : ∀ a b, ¬ b < 217 → ¬ PAt g L a b := fun a b h z => by have := PAt_le z; omega
    have em : (217 : Int32) * nI (D (d + 1)) + nI (r * (d + 1)) = nI (217 * D (d + 1) + r * (d + 1)) := by
      rw [show (217 : Int32) * nI (D (d + 1)) = nI (217 * D (d + 1)) from pk_mul 217 _, nI_add]
    by_cases c1 : D (d + 1) < 217
    · by_cases c2 : r * (d + 1) < 217
      · have hcode : ∀ rec, LB_X11_two_220 dues p2 (nI r) (fun t => B_X11_two_283 (nI L) dues f s v p2 t) rec (nI d) = if p2 (217 * D (d + 1) + r * (d + 1)) = 0 then some (nI d, nI L, dues, f, s, v, p2) else rec (nI (d + 1)) := fun rec => by
          unfold LB_X11_two_220 B_X11_two_283
          rw [if_neg (show ¬ (60 : Int32) ≤ nI d from nI_ge (b := 60) hd60 (by decide)), nI_1, ob_t ib, nI_clamp (by omega), hd _ (by omega), pk_mul, if_neg (show ¬ (217 : Int32) ≤ nI (D (d + 1)) from nI_ge (b := 217) c1 (by decide)), if_neg (show ¬ (217 : Int32) ≤ nI (r * (d + 1)) from nI_ge (b := 217) c2 (by decide)), ob_t ib, em, ob_t (inb_nI (by omega) (by decide)), nI_clamp (by omega)]
        rcases h2 (D (d + 1)) (r * (d + 1)) (by omega) (by omega) with ⟨e, hz⟩ | ⟨e, hz⟩
        · rw [e] at hcode
          refine Or.inr ⟨fun d' hd' => ?_, fun rec => (hcode rec).trans (if_neg n10)⟩
          by_cases e : d' = d + 1
          · rw [e]; exact hz
          · exact hI d' (by omega)
        · rw [e] at hcode
          exact Or.inl (fun rec => ⟨d, (hcode rec).trans (if_pos rfl), stop hz⟩)
      · refine Or.inl (fun rec => ⟨d, ?_, stop (big2 _ _ c2)⟩)
        show LB_X11_two_220 _ _ _ _ rec (nI d) = _
        unfold LB_X11_two_220
        rw [if_neg (show ¬ (60 : Int32) ≤ nI d from nI_ge (b := 60) hd60 (by decide)), nI_1, ob_t ib, nI_clamp (by omega), hd _ (by omega), pk_mul, if_neg (show ¬ (217 : Int32) ≤ nI (D (d + 1)) from nI_ge (b := 217) c1 (by decide)), if_pos (show (217 : Int32) ≤ nI (r * (d + 1)) from nI_le (a := 217) (by omega) (by omega))]
        rfl
    · refine Or.inl (fun rec => ⟨d, ?_, stop (big _ _ c1)⟩)
      show LB_X11_two_220 _ _ _ _ rec (nI d) = _
      unfold LB_X11_two_220
      rw [if_neg (show ¬ (60 : Int32) ≤ nI d from nI_ge (b := 60) hd60 (by decide)), nI_1, ob_t ib, nI_clamp (by omega), hd _ (by omega), if_pos (show (217 : Int32) ≤ nI (D (d + 1)) from nI_le (a := 217) (by omega) (by omega))]
      rfl
  · intro hI rec
    refine ⟨60, ?_, Nat.le_refl _, hI, fun z => absurd z (by omega)⟩
    show LB_X11_two_220 _ _ _ _ rec (nI 60) = _
    unfold LB_X11_two_220
    rw [if_pos (by decide)]
    rfl
theorem tq_two {x_hasImage : Int32} {x_chain_kind : Int32} {x_chain_links : Int32} {x_chain_cutCount : Int32} {x_best_known : Nat → Int32} {x_chain_worths : Nat → Int32} {x_chain_ahead : Nat → Int32} {x_chain_cuts : Nat → Int32} {x_tape_length : Int32} {x_tape_bytes : Nat → Int32} {x_draft_ahead : Nat → Int32} {x_pieces_count : Int32} {x_pieces_first : Nat → Int32} {x_pieces_size : Nat → Int32} {x_pieces_value : Nat → Int32} {x_days_each : Int32} {x_days_off : Int32} {x_days_twice : Int32} {x_days_dues : Nat → Int32} {x_sets_whole : Int32} {x_sets_pieceCount : Int32} {x_sets_lookedBack : Int32} {x_sets_worths : Nat → Int32} {x_sets_ends : Nat → Int32} {x_sets_order : Nat → Int32} {x_sets_notes : Nat → Int32} {x_best_far : Nat → Int32} {x_best_rows : Nat → Nat → Int32} {x_sets_lookedAt : Nat → Int32} {x_imageChain_kind : Int32} {x_imageChain_links : Int32} {x_imageChain_cutCount : Int32} {x_imageChain_worths : Nat → Int32} {x_imageChain_ahead : Nat → Int32} {x_imageChain_cuts : Nat → Int32} {x_imageDays_each : Int32} {x_imageDays_off : Int32} {x_imageDays_twice : Int32} {x_imageDays_dues : Nat → Int32} {x_sheets_there : Nat → Int32} {x_sheets_lane : Nat → Int32} {x_sheets_length : Nat → Int32} {x_sheets_items : Nat → Nat → Int64} {y_isKept : Int32} {y_taped : Int32} {y_pieces : Int32} {y_w : Nat → Int32} {y_firsts : Nat → Int32} {y_sizes : Nat → Int32} {y_worths : Nat → Int32} {y_tape : Nat → Int32} {y_dues : Nat → Int32} {y_pairs : Nat → Int32} {y_lanes : Nat → Int32} {y_longs : Nat → Int32} {y_items : Nat → Int64} (hR : Rel x_chain_kind x_chain_links x_chain_cutCount x_chain_worths x_chain_ahead x_chain_cuts x_days_each x_days_off x_days_twice x_days_dues x_best_known x_best_far x_best_rows x_hasImage x_imageChain_kind x_imageChain_links x_imageChain_cutCount x_imageChain_worths x_imageChain_ahead x_imageChain_cuts x_imageDays_each x_imageDays_off x_imageDays_twice x_imageDays_dues x_tape_length x_tape_bytes x_sheets_there x_sheets_lane x_sheets_length x_sheets_items x_draft_ahead x_sets_whole x_sets_pieceCount x_sets_lookedBack x_sets_worths x_sets_lookedAt x_sets_ends x_sets_order x_sets_notes y_w y_isKept y_taped y_tape y_lanes y_longs y_items) (p0 : Int32) : ∃ (rx : Int32 × Int32 × (Nat → Int32) × (Nat → Int32) × (Nat → Int32) × Int32 × Int32 × Int32 × (Nat → Int32) × (Nat → Int32) × (Nat → Int32)) (ry : Int32 × Int32 × (Nat → Int32) × (Nat → Int32) × (Nat → Int32) × (Nat → Int32) × (Nat → Int32)), f_X10_two x_chain_kind x_chain_links x_chain_cutCount x_pieces_count x_pieces_first x_pieces_size x_pieces_value x_chain_ahead x_chain_worths x_chain_cuts x_sets_whole x_sets_pieceCount x_sets_lookedBack x_sets_worths x_sets_ends x_sets_order x_days_dues p0 = some rx ∧ f_X11_two y_pieces y_dues y_w y_firsts y_sizes y_worths y_pairs p0 = some ry ∧ rx.1 = ry.1 ∧ Rel x_chain_kind x_chain_links x_chain_cutCount x_chain_worths x_chain_ahead x_chain_cuts x_days_each x_days_off x_days_twice x_days_dues x_best_known x_best_far x_best_rows x_hasImage x_imageChain_kind x_imageChain_links x_imageChain_cutCount x_imageChain_worths x_imageChain_ahead x_imageChain_cuts x_imageDays_each x_imageDays_off x_imageDays_twice x_imageDays_dues x_tape_length x_tape_bytes x_sheets_there x_sheets_lane x_sheets_length x_sheets_items x_draft_ahead rx.2.2.2.2.2.1 rx.2.2.2.2.2.2.1 rx.2.2.2.2.2.2.2.1 rx.2.2.2.2.2.2.2.2.1 x_sets_lookedAt rx.2.2.2.2.2.2.2.2.2.1 rx.2.2.2.2.2.2.2.2.2.2 x_sets_notes y_w y_isKept y_taped y_tape y_lanes y_longs y_items := by
  obtain ⟨kd, n, w, cs, r, off, dbl, hV, hCC, hM, hDV, hDC, hD, hB⟩ := id hR.1
  obtain ⟨hl, f1, s1, v1, e1, pa1⟩ := div_ok hV hCC x_pieces_first x_pieces_size x_pieces_value
  obtain ⟨f2, s2, v2, e2, pa2⟩ := layN_ok hV hM y_firsts y_sizes y_worths
  obtain ⟨rd, er, hrd⟩ := layDues_ok hDV hD y_dues
  obtain ⟨-, hp2, -⟩ := PaV_of hV
  have hpos := pcs_pos hV
  have hDb : ∀ d, d ≤ 60 → dueF r off dbl d < 2 ^ 29 := fun d hd => by
    have := due_le (r := r) (off := off) (dbl := dbl) hDV.2.1 d
    omega
  generalize pcs kd n w cs = P at *
  obtain ⟨wo, e, o, es, -, hG⟩ := setsC hl hp2 (PA_v pa1) x_sets_worths x_sets_ends x_sets_order
  unfold f_X10_two f_X11_two
  rw [within_ok, in_lit p0 1 9 (by decide) (by decide), e1, e2, er]
  simp only [Option.bind_some]
  rw [es]
  simp only [Option.bind_some]
  by_cases h : (1 : Int32) ≤ p0 ∧ p0 ≤ 9
  · rw [if_pos h, if_neg n10, if_neg n10]
    obtain ⟨q, hq, rfl⟩ := nat_of (N := 9) (M := 9) (by decide) ⟨Int32.le_trans (by decide) h.1, h.2⟩
    obtain ⟨a, ea, ha⟩ := daysApart_ok (D := dueF r off dbl) hl hp2 rfl hDb hq hG hDC.2.2.2
    obtain ⟨b, pr', eb, hb⟩ := twoM_ok (D := dueF r off dbl) (f := f2) (s := s2) hl hpos hp2 rfl hDb hq hrd (PA_v pa2) y_pairs
    rw [ea, eb, AnsD_uniq ha hb]
    exact ⟨_, _, rfl, rfl, rfl, hR.1, hR.2.1, ⟨hR.2.2.1.1, hR.2.2.1.2.1, Or.inl rfl⟩, hR.2.2.2⟩
  · rw [if_neg h, if_pos rfl, if_pos rfl]
    exact ⟨_, _, rfl, rfl, rfl, hR⟩
