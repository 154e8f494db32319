/-! kept: the reference -/
theorem nar1 : vp_nar .boolean (1 : Int32) = 1 := rfl
theorem nar0 : vp_nar .boolean (0 : Int32) = 0 := rfl
theorem nI_nz {j : Nat} (h : j < 2 ^ 31) (c : ¬ j = 0) : ¬ nI j = 0 := fun z => c ((nI_eq (b := 0) h (by decide)).mp z)
/-- S less a bit that it has -/
theorem tb_less {S p : Nat} (h : S.testBit p = true) : 2 ^ p ≤ S ∧ ∀ i, (S - 2 ^ p).testBit i = (S.testBit i && !decide (i = p)) := by
  have hr : S % 2 ^ p < 2 ^ p := Nat.mod_lt _ (Nat.two_pow_pos p)
  have hq : S / 2 ^ p % 2 = 1 := by
    rw [Nat.testBit_eq_decide_div_mod_eq] at h
    exact of_decide_eq_true h
  obtain ⟨c, hc⟩ : ∃ c, S / 2 ^ p = 2 * c + 1 := ⟨S / 2 ^ p / 2, by omega⟩
  have hS : S = 2 ^ p * (2 * c + 1) + S % 2 ^ p := by
    rw [← hc]; exact (Nat.div_add_mod S (2 ^ p)).symm
  generalize S % 2 ^ p = r at hS hr
  have e1 : 2 ^ p * (2 * c + 1) = 2 ^ p * (2 * c) + 2 ^ p := by rw [Nat.mul_add, Nat.mul_one]
  have hle : 2 ^ p ≤ S := by omega
  refine ⟨hle, fun i => ?_⟩
  have hS2 : S - 2 ^ p = 2 ^ p * (2 * c) + r := by omega
  rw [hS2, hS, Nat.testBit_two_pow_mul_add _ hr, Nat.testBit_two_pow_mul_add _ hr]
  by_cases h1 : i < p
  · rw [if_pos h1, if_pos h1, decide_eq_false (show ¬ i = p by omega)]; simp
  · rw [if_neg h1, if_neg h1]
    by_cases h2 : i = p
    · rw [decide_eq_true h2, h2, Nat.sub_self]
      simp
    · rw [decide_eq_false h2]
      obtain ⟨s, hs⟩ : ∃ s, i - p = s + 1 := ⟨i - p - 1, by omega⟩
      rw [hs, (tb2 c s).1, (tb2 c s).2]; simp
def cl (B : Nat → Prop) (p S : Nat) : Prop := ∃ T, B T ∧ sub T S ∧ ∀ i, p ≤ i → T.testBit i = S.testBit i
theorem cl_step {B : Nat → Prop} {p S : Nat} : cl B (p + 1) S ↔ (cl B p S ∨ (S.testBit p = true ∧ cl B p (S - 2 ^ p))) := by
  constructor
  · rintro ⟨T, h1, h2, h3⟩
    by_cases e : T.testBit p = S.testBit p
    · refine Or.inl ⟨T, h1, h2, fun i hi => ?_⟩
      by_cases c : i = p
      · rw [c]; exact e
      · exact h3 i (by omega)
    · have hs : S.testBit p = true := by
        by_cases t : T.testBit p = true
        · exact h2 p t
        · by_cases s : S.testBit p = true
          · exact s
          · simp only [Bool.not_eq_true] at t s; exact absurd (t.trans s.symm) e
      have ht : T.testBit p = false := by
        by_cases t : T.testBit p = true
        · exact absurd (t.trans hs.symm) e
        · simpa using t
      have hb := (tb_less hs).2
      refine Or.inr ⟨hs, T, h1, fun i hi => ?_, fun i hi => ?_⟩
      · rw [hb, h2 i hi, decide_eq_false (fun c => by rw [c, ht] at hi; cases hi)]; rfl
      · rw [hb]
        by_cases c : i = p
        · rw [c, ht, decide_eq_true rfl]; simp
        · rw [decide_eq_false c, h3 i (by omega)]; simp
  · rintro (⟨T, h1, h2, h3⟩ | ⟨hs, T, h1, h2, h3⟩)
    · exact ⟨T, h1, h2, fun i hi => h3 i (by omega)⟩
    · have hb := (tb_less hs).2
      refine ⟨T, h1, fun i hi => ?_, fun i hi => ?_⟩
      · have := h2 i hi
        rw [hb, Bool.and_eq_true] at this
        exact this.1
      · rw [h3 i (by omega), hb, decide_eq_false (show ¬ i = p by omega)]; simp
theorem has_tf {S p : Nat} (hS : S < 2 ^ 31) (hp : p < 32) : f_X11_has (nI S) (nI p) = some (if S.testBit p = true then 1 else 0) := has_ok hS hp
theorem keptInit {N : Nat} (hN : N ≤ 2048) (lies : Nat → Int32) (kx : Int32 × (Nat → Int32) → Option (Int32 × Int32 × (Nat → Int32) × (Nat → Int32) × (Nat → Int32) × (Nat → Int32) × (Nat → Int32) × (Nat → Int32))) : ∃ l', (∀ S, S < N → tf (l' S) (S = 0)) ∧ L_X11_kept_21 (nI N) kx FUEL (0, lies) = kx (nI N, l') := by
  unfold L_X11_kept_21
  refine upK (fun rec t => LB_X11_kept_21 (nI N) kx rec t.1 t.2) kx N (fun j l => ∀ S, S < j → tf (l S) (S = 0)) (by omega) (fun j l hj hI rec => ?_) (fun l _ rec => ?_) (j := 0) (s := lies) (by omega) (fun S hS => absurd hS (by omega))
  · have ij : inb (nI j) 2048 = true := inb_nI (by omega) (by decide)
    show ∃ s', _ ∧ LB_X11_kept_21 _ _ rec (nI j) l = _
    unfold LB_X11_kept_21 B_X11_kept_40
    rw [if_neg (nI_ge hj (by omega)), ob_t ij, ob_t ij, nI_clamp (by omega), nI_1, nar1, nar0]
    by_cases c : j = 0
    · rw [if_pos (by rw [c]; rfl)]
      refine ⟨_, fun S hS => ?_, rfl⟩
      rw [show S = j by omega, pk_us, c]
      exact Or.inl ⟨rfl, rfl⟩
    · rw [if_neg (nI_nz (by omega) c)]
      refine ⟨_, fun S hS => ?_, rfl⟩
      by_cases e : S = j
      · rw [e, pk_us]; exact Or.inr ⟨rfl, c⟩
      · rw [pk_un e]; exact hI S (by omega)
  · show LB_X11_kept_21 _ _ rec (nI N) l = _
    unfold LB_X11_kept_21
    rw [if_pos (nI_le (Nat.le_refl _) (by omega))]
theorem keptOne {N p : Nat} {B : Nat → Prop} (hN : N ≤ 2048) (hp : p < 11) (lies : Nat → Int32) (h : ∀ S, S < N → tf (lies S) (cl B p S)) (kx : Int32 × (Nat → Int32) → Option (Int32 × Int32 × (Nat → Int32) × (Nat → Int32) × (Nat → Int32) × (Nat → Int32) × (Nat → Int32) × (Nat → Int32))) : ∃ l', (∀ S, S < N → tf (l' S) (cl B (p + 1) S)) ∧ L_X11_kept_68 (nI N) (nI p) kx FUEL (0, lies) = kx (nI N, l') := by
  unfold L_X11_kept_68
  obtain ⟨l', h1, q⟩ := upK (fun rec t => LB_X11_kept_68 (nI N) (nI p) kx rec t.1 t.2) kx N (fun j l => (∀ S, S < j → tf (l S) (cl B (p + 1) S)) ∧ ∀ S, j ≤ S → S < N → tf (l S) (cl B p S)) (by omega) (fun j l hj hI rec => by
      have ij : inb (nI j) 2048 = true := inb_nI (by omega) (by decide)
      have fin : ∀ x : Int32, tf x (cl B (p + 1) j) → ∃ s', ((∀ S, S < j + 1 → tf (s' S) (cl B (p + 1) S)) ∧ ∀ S, j + 1 ≤ S → S < N → tf (s' S) (cl B p S)) ∧ rec (nI (j + 1), upd l j x) = rec (nI (j + 1), s') := fun x hx => ⟨upd l j x, ⟨fun S hS => by
          by_cases e : S = j
          · rw [e, pk_us]; exact hx
          · rw [pk_un e]; exact hI.1 S (by omega), fun S h1 h2 => by rw [pk_un (by omega)]; exact hI.2 S (by omega) h2⟩, rfl⟩
      show ∃ s', _ ∧ LB_X11_kept_68 _ _ _ rec (nI j) l = _
      unfold LB_X11_kept_68 B_X11_kept_117 B_X11_kept_113 B_X11_kept_118
      rw [if_neg (nI_ge hj (by omega)), ob_t ij, ob_t ij, ob_t ij, nI_clamp (by omega), nI_1, nar1, nar0]
      rcases hI.2 j (Nat.le_refl _) hj with ⟨e1, c1⟩ | ⟨e1, c1⟩
      · rw [e1, if_neg n10]
        exact fin 1 (Or.inl ⟨rfl, cl_step.mpr (Or.inl c1)⟩)
      · rw [e1, if_pos rfl, has_tf (by omega) (by omega), Option.bind_some]
        by_cases t : j.testBit p = true
        · obtain ⟨hle, hb⟩ := tb_less t
          have hp0 := Nat.two_pow_pos p
          rw [if_pos t, if_neg n10, shl31 (by omega), pk_sub hle, ob_t (inb_nI (by omega) (by decide)), nI_clamp (by omega)]
          have hlow : tf (l (j - 2 ^ p)) (cl B p (j - 2 ^ p)) := by
            refine tf_congr ?_ (hI.1 (j - 2 ^ p) (by omega))
            rw [cl_step, hb p, decide_eq_true rfl]
            simp
          rcases hlow with ⟨e2, c2⟩ | ⟨e2, c2⟩
          · rw [e2, if_neg n10]
            exact fin 1 (Or.inl ⟨rfl, cl_step.mpr (Or.inr ⟨t, c2⟩)⟩)
          · rw [e2, if_pos rfl]
            exact fin 0 (Or.inr ⟨rfl, fun z => by
              rcases cl_step.mp z with z | z
              · exact c1 z
              · exact c2 z.2⟩)
        · rw [if_neg t, if_pos rfl]
          exact fin 0 (Or.inr ⟨rfl, fun z => by
              rcases cl_step.mp z with z | z
              · exact c1 z
              · exact t z.1⟩)) (fun l _ rec => by
      show LB_X11_kept_68 _ _ _ rec (nI N) l = _
      unfold LB_X11_kept_68
      rw [if_pos (nI_le (Nat.le_refl _) (by omega))]) (j := 0) (s := lies) (by omega) ⟨fun S hS => absurd hS (by omega), fun S _ hS => h S hS⟩
  exact ⟨l', h1.1, q⟩
theorem keptAll {N L : Nat} {B : Nat → Prop} (hN : N ≤ 2048) (hL : L ≤ 11) (lies : Nat → Int32) (h : ∀ S, S < N → tf (lies S) (B S)) (kx : Int32 × (Nat → Int32) → Option (Int32 × Int32 × (Nat → Int32) × (Nat → Int32) × (Nat → Int32) × (Nat → Int32) × (Nat → Int32) × (Nat → Int32))) : ∃ l', (∀ S, S < N → tf (l' S) (cl B L S)) ∧ L_X11_kept_57 (nI L) (nI N) kx FUEL (0, lies) = kx (nI L, l') := by
  unfold L_X11_kept_57
  refine upK (fun rec t => LB_X11_kept_57 (nI L) (nI N) kx rec t.1 t.2) kx L (fun p l => ∀ S, S < N → tf (l S) (cl B p S)) (by omega) (fun p l hp hI rec => ?_) (fun l _ rec => ?_) (j := 0) (s := lies) (by omega) (fun S hS => tf_congr ⟨fun b => ⟨S, b, fun i h => h, fun i _ => rfl⟩, ?_⟩ (h S hS))
  · obtain ⟨l', h1, q⟩ := keptOne hN (show p < 11 by omega) l hI (fun t => B_X11_kept_125 kx rec t.2 (nI p))
    refine ⟨l', h1, ?_⟩
    show LB_X11_kept_57 _ _ _ rec (nI p) l = _
    unfold LB_X11_kept_57
    rw [if_neg (nI_ge hp (by omega)), q]
    unfold B_X11_kept_125
    rw [nI_1]
  · show LB_X11_kept_57 _ _ _ rec (nI L) l = _
    unfold LB_X11_kept_57
    rw [if_pos (nI_le (Nat.le_refl _) (by omega))]
  · rintro ⟨T, h1, h2, h3⟩
    rw [← Nat.eq_of_testBit_eq (fun i => h3 i (Nat.zero_le i))]
    exact h1
theorem keptFil {N d : Nat} {C : Nat → Prop} {κ : Nat → Nat} {D : Nat → Nat} (hN : N ≤ 2048) (hd : d ≤ 60) {dues wo : Nat → Int32} (hdu : dues d = nI (D d)) (hDb : D d < 2 ^ 31) (hwo : ∀ S, S < N → wo S = nI (κ S)) (hκ : ∀ S, S < N → κ S < 2 ^ 31) (lies : Nat → Int32) (h : ∀ S, S < N → tf (lies S) (C S)) (kx : Int32 × Int32 × (Nat → Int32) → Option (Int32 × Int32 × (Nat → Int32) × (Nat → Int32) × (Nat → Int32) × (Nat → Int32) × (Nat → Int32) × (Nat → Int32))) : ∃ z l', ((∀ S, S < N → tf (l' S) (C S ∧ κ S = D d)) ∧ tf z (∃ S, S < N ∧ C S ∧ κ S = D d)) ∧ L_X11_kept_136 dues wo (nI N) (nI d) kx FUEL (0, 0, lies) = kx (z, nI N, l') := by
  unfold L_X11_kept_136
  obtain ⟨z, l', h1, q⟩ := upK2 (fun rec t => LB_X11_kept_136 dues wo (nI N) (nI d) kx rec t.1 t.2.1 t.2.2) kx N (fun j x l => (∀ S, S < j → tf (l S) (C S ∧ κ S = D d)) ∧ (∀ S, j ≤ S → S < N → tf (l S) (C S)) ∧ tf x (∃ S, S < j ∧ C S ∧ κ S = D d)) (by omega) (fun j x l hj hI rec => by
      obtain ⟨i1, i2, i3⟩ := hI
      have ij : inb (nI j) 2048 = true := inb_nI (by omega) (by decide)
      have id : inb (nI d) 61 = true := inb_nI (by omega) (by decide)
      have fin : ∀ y : Int32, tf y (C j ∧ κ j = D d) → ∃ x' s', ((∀ S, S < j + 1 → tf (s' S) (C S ∧ κ S = D d)) ∧ (∀ S, j + 1 ≤ S → S < N → tf (s' S) (C S)) ∧ tf x' (∃ S, S < j + 1 ∧ C S ∧ κ S = D d)) ∧ B_X11_kept_179 kx rec l x (nI j) y (nI j) = rec (x', nI (j + 1), s') := fun y hy => by
        have ny : vp_nar .boolean y = y := by
          rcases hy with ⟨rfl, -⟩ | ⟨rfl, -⟩
          · rfl
          · rfl
        unfold B_X11_kept_179 B_X11_kept_194 B_X11_kept_199
        rw [ob_t ij, ob_t ij, nI_clamp (by omega), nI_1, ny, pk_us]
        have k1 : ∀ S, S < j + 1 → tf (upd l j y S) (C S ∧ κ S = D d) := fun S hS => by
          by_cases e : S = j
          · rw [e, pk_us]; exact hy
          · rw [pk_un e]; exact i1 S (by omega)
        have k2 : ∀ S, j + 1 ≤ S → S < N → tf (upd l j y S) (C S) := fun S h1 h2 => by
          rw [pk_un (by omega)]; exact i2 S (by omega) h2
        rcases i3 with ⟨rfl, S, s1, s2⟩ | ⟨rfl, i4⟩
        · rw [if_neg n10]
          exact ⟨1, _, ⟨k1, k2, Or.inl ⟨rfl, S, by omega, s2⟩⟩, rfl⟩
        · rw [if_pos rfl]
          rcases hy with ⟨rfl, hy⟩ | ⟨rfl, hy⟩
          · rw [if_neg n10]
            exact ⟨1, _, ⟨k1, k2, Or.inl ⟨rfl, j, by omega, hy⟩⟩, rfl⟩
          · rw [if_pos rfl]
            refine ⟨0, _, ⟨k1, k2, Or.inr ⟨rfl, ?_⟩⟩, rfl⟩
            rintro ⟨S, s1, s2⟩
            by_cases e : S = j
            · rw [e] at s2; exact hy s2
            · exact i4 ⟨S, by omega, s2⟩
      show ∃ x' s', _ ∧ LB_X11_kept_136 _ _ _ _ _ rec x (nI j) l = _
      unfold LB_X11_kept_136 B_X11_kept_178
      rw [if_neg (nI_ge hj (by omega)), ob_t ij, ob_t ij, ob_t id, nI_clamp (by omega), nI_clamp (by omega), hwo j hj, hdu]
      rcases i2 j (Nat.le_refl _) hj with ⟨e1, c1⟩ | ⟨e1, c1⟩
      · rw [e1, if_neg n10]
        by_cases c : κ j = D d
        · rw [if_pos (by rw [c])]
          exact fin 1 (Or.inl ⟨rfl, c1, c⟩)
        · rw [if_neg (fun z => c ((nI_eq (hκ j hj) hDb).mp z))]
          exact fin 0 (Or.inr ⟨rfl, fun z => c z.2⟩)
      · rw [e1, if_pos rfl]
        exact fin 0 (Or.inr ⟨rfl, fun z => c1 z.1⟩)) (fun x l _ rec => by
      show LB_X11_kept_136 _ _ _ _ _ rec x (nI N) l = _
      unfold LB_X11_kept_136
      rw [if_pos (nI_le (Nat.le_refl _) (by omega))]) (j := 0) (x := (0 : Int32)) (s := lies) (by omega) ⟨fun S hS => absurd hS (by omega), fun S _ hS => h S hS, Or.inr ⟨rfl, fun ⟨S, s1, _⟩ => absurd s1 (by omega)⟩⟩
  exact ⟨z, l', ⟨h1.1, h1.2.2⟩, q⟩
theorem keptM_ok {g : Nat → Nat} {L : Nat} {D : Nat → Nat} (hL : L ≤ 11) (h0 : D 0 = 0) (hg : pre g L ≤ 216) (hD : ∀ d, d ≤ 60 → D d < 2 ^ 30) {dues wo : Nat → Int32} (hd : ∀ d, d ≤ 60 → dues d = nI (D d)) (hwo : ∀ S, S < 2 ^ L → wo S = nI (ws g L S)) (f s v lies : Nat → Int32) : ∃ a l', L_X11_kept_21 (nI (2 ^ L)) (fun t => B_X11_kept_47 (nI L) dues f s v wo t.2 (nI (2 ^ L))) FUEL (0, lies) = some (nI a, nI L, dues, f, s, v, wo, l') ∧ AnsD (fun d => ∃ S, Rch g L D d S) a := by
  have hN := p11 hL
  obtain ⟨l1, h1, q1⟩ := keptInit hN lies (fun t => B_X11_kept_47 (nI L) dues f s v wo t.2 (nI (2 ^ L)))
  refine (Exists.imp fun a => Exists.imp fun l' => And.imp_left fun z => q1.trans z) ?_
  unfold B_X11_kept_47 L_X11_kept_49
  refine loopR _ (fun o => ∃ a l', o = some (nI a, nI L, dues, f, s, v, wo, l') ∧ AnsD (fun d => ∃ S, Rch g L D d S) a) (fun m t => ∃ d l, t = (nI (d + 1), l) ∧ d ≤ 60 ∧ m = 60 - d ∧ (∀ S, S < 2 ^ L → tf (l S) (Rch g L D d S)) ∧ ∀ d', d' ≤ d → ∃ S, Rch g L D d' S) ?_ FUEL 60 _ ⟨0, l1, rfl, by omega, rfl, h1, fun d' hd' => ⟨0, by rw [show d' = 0 by omega]; rfl⟩⟩ (fuel_lt (by decide))
  rintro m t ⟨d, l, rfl, hd60, rfl, hI, hE⟩ rec
  by_cases c : d = 60
  · subst c
    refine Or.inl ⟨60, l, ?_, Nat.le_refl _, hE, fun z => absurd z (by omega)⟩
    show LB_X11_kept_49 _ _ _ _ _ _ _ _ rec (nI 61) l = _
    unfold LB_X11_kept_49
    rw [if_pos (by decide)]
    rfl
  · obtain ⟨l2, h2, q2⟩ := keptAll hN hL l hI (fun t => B_X11_kept_131 (fun t => B_X11_kept_220 (nI L) dues f s v wo t.2) rec (nI L) dues f s v wo t.2 (nI (2 ^ L)) (nI (d + 1)))
    obtain ⟨z, l3, ⟨h3, h4⟩, q3⟩ := keptFil (κ := ws g L) (D := D) (C := cl (Rch g L D d) L) hN (show d + 1 ≤ 60 by omega) (hd _ (by omega)) (by have := hD (d + 1) (by omega); omega) hwo (fun S _ => by have := ws_le g L S; omega) l2 h2 (fun t => B_X11_kept_206 (fun t => B_X11_kept_220 (nI L) dues f s v wo t.2) rec (nI L) dues f s v wo t.2.2 (nI (d + 1)) t.1)
    have hiff : ∀ S, S < 2 ^ L → ((cl (Rch g L D d) L S ∧ ws g L S = D (d + 1)) ↔ Rch g L D (d + 1) S) := fun S hS => by
      constructor
      · rintro ⟨⟨T, t1, t2, -⟩, h⟩; exact ⟨hS, h, T, t2, t1⟩
      · rintro ⟨-, h, T, t2, t1⟩
        refine ⟨⟨T, t1, t2, fun i hi => ?_⟩, h⟩
        have hT := (Rch_in h0 d T t1).1
        have hp : 2 ^ L ≤ 2 ^ i := Nat.pow_le_pow_right (by decide) hi
        rw [Nat.testBit_lt_two_pow (by omega), Nat.testBit_lt_two_pow (by omega)]
    have hcode : LB_X11_kept_49 (nI L) dues f s v wo (nI (2 ^ L)) (fun t => B_X11_kept_220 (nI L) dues f s v wo t.2) rec (nI (d + 1)) l = B_X11_kept_206 (fun t => B_X11_kept_220 (nI L) dues f s v wo t.2) rec (nI L) dues f s v wo l3 (nI (d + 1)) z := by
      unfold LB_X11_kept_49
      rw [if_neg (show ¬ (60 : Int32) < nI (d + 1) from nI_nlt (a := 60) (by omega) (by decide)), q2]
      unfold B_X11_kept_131
      exact q3
    have e1 : nI (d + 1) - (1 : Int32) = nI d := pk_sub (a := d + 1) (b := 1) (by omega)
    unfold B_X11_kept_206 at hcode
    rw [e1, nI_1] at hcode
    rcases h4 with ⟨rfl, S, s1, s2⟩ | ⟨rfl, hno⟩
    · rw [if_neg n10] at hcode
      refine Or.inr ⟨60 - (d + 1), _, by omega, ⟨d + 1, l3, rfl, by omega, rfl, fun S hS => tf_congr (hiff S hS) (h3 S hS), fun d' hd' => ?_⟩, hcode⟩
      by_cases e : d' = d + 1
      · rw [e]; exact ⟨S, (hiff S s1).mp s2⟩
      · exact hE d' (by omega)
    · rw [if_pos rfl] at hcode
      refine Or.inl ⟨d, l3, hcode, by omega, hE, fun _ => ?_⟩
      rintro ⟨S, hS⟩
      exact hno ⟨S, hS.1, (hiff S hS.1).mpr hS⟩
theorem PA_v {P : List (Nat × Nat × Nat)} {f s v : Nat → Int32} (hP : PA P f s v) : ∀ i, i < P.length → v i = nI (pv P i) := fun i hi => (hP i hi).2.2
theorem rawR_pos {kd : Nat} {cs : List Nat} {w : Nat → Nat} : ∀ k, (∀ i, i < k → 1 ≤ w i) → ∀ q, q ∈ rawR kd cs w k → 1 ≤ q.2.2
  | 0, _, q, h => by
    have h : q ∈ ([] : List (Nat × Nat × Nat)) := h
    cases h
  | k + 1, hw, q, h => by
    have ih := rawR_pos (kd := kd) (cs := cs) k (fun i hi => hw i (by omega))
    have hl : 1 ≤ lossN kd cs w k := by
      have := hw k (by omega)
      unfold lossN
      split <;> omega
    rw [rawR_succ] at h
    split at h
    · rcases List.mem_cons.mp h with rfl | h
      · exact hl
      · exact ih q h
    · split at h
      · cases h
      · rename_i a t e
        rw [e] at ih
        rcases List.mem_cons.mp h with rfl | h
        · have := ih a List.mem_cons_self
          show 1 ≤ a.2.2 + lossN kd cs w k
          omega
        · exact ih q (List.mem_cons_of_mem _ h)
theorem joinE_pos {P : List (Nat × Nat × Nat)} (h : ∀ q, q ∈ P → 1 ≤ q.2.2) : ∀ q, q ∈ joinE P → 1 ≤ q.2.2 := by
  cases P with
  | nil => intro q hq; cases hq
  | cons p t =>
    intro q hq
    rcases e : t.reverse with _ | ⟨a, u⟩
    · have ej : joinE (p :: t) = [p] := by
        show (match t.reverse with
          | [] => [p]
          | q :: u => u.reverse ++ [(q.1, q.2.1 + p.2.1, q.2.2 + p.2.2)]) = _
        rw [e]
      rw [ej] at hq
      rw [List.mem_singleton.mp hq]
      exact h p List.mem_cons_self
    · have ej : joinE (p :: t) = u.reverse ++ [(a.1, a.2.1 + p.2.1, a.2.2 + p.2.2)] := by
        show (match t.reverse with
          | [] => [p]
          | q :: u => u.reverse ++ [(q.1, q.2.1 + p.2.1, q.2.2 + p.2.2)]) = _
        rw [e]
      rw [ej] at hq
      rcases List.mem_append.mp hq with hq | hq
      · have : q ∈ t.reverse := by rw [e]; exact List.mem_cons_of_mem _ (List.mem_reverse.mp hq)
        exact h q (List.mem_cons_of_mem _ (List.mem_reverse.mp this))
      · rw [List.mem_singleton.mp hq]
        have := h p List.mem_cons_self
        show 1 ≤ a.2.2 + p.2.2
        omega
theorem pcs_pos {kd n : Nat} {w : Nat → Nat} {cs : List Nat} (hV : ChV kd n w cs) : ∀ i, i < (pcs kd n w cs).length → 1 ≤ pv (pcs kd n w cs) i := by
  intro i hi
  have hw : ∀ i, i < n → 1 ≤ w i := fun i hi => (hV.2.2.2.1 i hi).1
  have hr : ∀ q, q ∈ (rawR kd cs w n).reverse → 1 ≤ q.2.2 := fun q hq => rawR_pos n hw q (List.mem_reverse.mp hq)
  have hall : ∀ q, q ∈ pcs kd n w cs → 1 ≤ q.2.2 := by
    unfold pcs
    split
    · exact joinE_pos hr
    · exact hr
  unfold pv
  refine hall _ ?_
  rw [List.getD_eq_getElem?_getD, List.getElem?_eq_getElem hi]
  exact List.getElem_mem hi
theorem tq_kept {x_hasImage : Int32} {x_chain_kind : Int32} {x_chain_links : Int32} {x_chain_cutCount : Int32} {x_best_known : Nat → Int32} {x_chain_worths : Nat → Int32} {x_chain_ahead : Nat → Int32} {x_chain_cuts : Nat → Int32} {x_tape_length : Int32} {x_tape_bytes : Nat → Int32} {x_draft_ahead : Nat → Int32} {x_pieces_first : Nat → Int32} {x_pieces_size : Nat → Int32} {x_pieces_value : Nat → Int32} {x_days_each : Int32} {x_days_off : Int32} {x_days_twice : Int32} {x_days_dues : Nat → Int32} {x_sets_whole : Int32} {x_sets_pieceCount : Int32} {x_sets_lookedBack : Int32} {x_sets_worths : Nat → Int32} {x_sets_ends : Nat → Int32} {x_sets_order : Nat → Int32} {x_sets_notes : Nat → Int32} {x_best_far : Nat → Int32} {x_best_rows : Nat → Nat → Int32} {x_sets_lookedAt : Nat → Int32} {x_imageChain_kind : Int32} {x_imageChain_links : Int32} {x_imageChain_cutCount : Int32} {x_imageChain_worths : Nat → Int32} {x_imageChain_ahead : Nat → Int32} {x_imageChain_cuts : Nat → Int32} {x_imageDays_each : Int32} {x_imageDays_off : Int32} {x_imageDays_twice : Int32} {x_imageDays_dues : Nat → Int32} {x_sheets_there : Nat → Int32} {x_sheets_lane : Nat → Int32} {x_sheets_length : Nat → Int32} {x_sheets_items : Nat → Nat → Int64} {y_isKept : Int32} {y_taped : Int32} {y_w : Nat → Int32} {y_firsts : Nat → Int32} {y_sizes : Nat → Int32} {y_worths : Nat → Int32} {y_tape : Nat → Int32} {y_dues : Nat → Int32} {y_worthOf : Nat → Int32} {y_lies : Nat → Int32} {y_lanes : Nat → Int32} {y_longs : Nat → Int32} {y_items : Nat → Int64} (hR : Rel x_chain_kind x_chain_links x_chain_cutCount x_chain_worths x_chain_ahead x_chain_cuts x_days_each x_days_off x_days_twice x_days_dues x_best_known x_best_far x_best_rows x_hasImage x_imageChain_kind x_imageChain_links x_imageChain_cutCount x_imageChain_worths x_imageChain_ahead x_imageChain_cuts x_imageDays_each x_imageDays_off x_imageDays_twice x_imageDays_dues x_tape_length x_tape_bytes x_sheets_there x_sheets_lane x_sheets_length x_sheets_items x_draft_ahead x_sets_whole x_sets_pieceCount x_sets_lookedBack x_sets_worths x_sets_lookedAt x_sets_ends x_sets_order x_sets_notes y_w y_isKept y_taped y_tape y_lanes y_longs y_items) : ∃ (rx : Int32 × Int32 × (Nat → Int32) × (Nat → Int32) × (Nat → Int32) × Int32 × Int32 × Int32 × (Nat → Int32) × (Nat → Int32) × (Nat → Int32) × (Nat → Int32)) (ry : Int32 × Int32 × (Nat → Int32) × (Nat → Int32) × (Nat → Int32) × (Nat → Int32) × (Nat → Int32) × (Nat → Int32)), f_X10_kept x_chain_kind x_chain_links x_chain_cutCount x_pieces_first x_pieces_size x_pieces_value x_chain_ahead x_chain_worths x_chain_cuts x_sets_worths x_sets_ends x_sets_order x_sets_notes x_days_dues = some rx ∧ f_X11_kept y_dues y_w y_firsts y_sizes y_worths y_worthOf y_lies = some ry ∧ rx.1 = ry.1 ∧ Rel x_chain_kind x_chain_links x_chain_cutCount x_chain_worths x_chain_ahead x_chain_cuts x_days_each x_days_off x_days_twice x_days_dues x_best_known x_best_far x_best_rows x_hasImage x_imageChain_kind x_imageChain_links x_imageChain_cutCount x_imageChain_worths x_imageChain_ahead x_imageChain_cuts x_imageDays_each x_imageDays_off x_imageDays_twice x_imageDays_dues x_tape_length x_tape_bytes x_sheets_there x_sheets_lane x_sheets_length x_sheets_items x_draft_ahead rx.2.2.2.2.2.1 rx.2.2.2.2.2.2.1 rx.2.2.2.2.2.2.2.1 rx.2.2.2.2.2.2.2.2.1 x_sets_lookedAt rx.2.2.2.2.2.2.2.2.2.1 rx.2.2.2.2.2.2.2.2.2.2.1 rx.2.2.2.2.2.2.2.2.2.2.2 y_w y_isKept y_taped y_tape y_lanes y_longs y_items := by
  obtain ⟨kd, n, w, cs, r, off, dbl, hV, hCC, hM, hDV, hDC, hD, hB⟩ := id hR.1
  obtain ⟨hl, f1, s1, v1, e1, pa1⟩ := div_ok hV hCC x_pieces_first x_pieces_size x_pieces_value
  obtain ⟨f2, s2, v2, e2, pa2⟩ := layN_ok hV hM y_firsts y_sizes y_worths
  obtain ⟨rd, er, hrd⟩ := layDues_ok hDV hD y_dues
  obtain ⟨-, hp2, -⟩ := PaV_of hV
  have hpos := pcs_pos hV
  have hDb : ∀ d, d ≤ 60 → dueF r off dbl d < 2 ^ 30 := fun d hd => by
    have := due_le (r := r) (off := off) (dbl := dbl) hDV.2.1 d
    omega
  generalize pcs kd n w cs = P at *
  obtain ⟨wo, e, o, es, -, hG⟩ := setsC hl hp2 (PA_v pa1) x_sets_worths x_sets_ends x_sets_order
  obtain ⟨wm, em, hwm⟩ := laySets_ok hl (PA_v pa2) y_worthOf
  obtain ⟨a, n', ea, ha⟩ := daysGrowing_ok (D := dueF r off dbl) hl hpos rfl hDb hG hDC.2.2.2 x_sets_notes
  obtain ⟨b, l', eb, hb⟩ := keptM_ok (D := dueF r off dbl) hl rfl hp2 hDb hrd hwm f2 s2 v2 y_lies
  unfold f_X10_kept f_X11_kept
  rw [e1, e2, er]
  simp only [Option.bind_some]
  rw [es, em]
  simp only [Option.bind_some]
  rw [ea, shl31 (by omega), eb, AnsD_uniq ha hb]
  exact ⟨_, _, rfl, rfl, rfl, hR.1, hR.2.1, ⟨hR.2.2.1.1, hR.2.2.1.2.1, Or.inl rfl⟩, hR.2.2.2⟩
