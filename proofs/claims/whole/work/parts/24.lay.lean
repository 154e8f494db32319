/-! split and lay, to their ends -/
/-- a loop that keeps I, whose measure falls, and ends in Q; the next state may be found when the rest is known -/
theorem loopR {α β : Type} (body : (α → Option β) → α → Option β) (Q : Option β → Prop) (I : Nat → α → Prop) (step : ∀ m a, I m a → ∀ rec, Q (body rec a) ∨ ∃ m' b, m' < m ∧ I m' b ∧ body rec a = rec b) : ∀ (fuel m : Nat) (a : α), I m a → m < fuel → Q (fixN body fuel a) := by
  intro fuel
  induction fuel with
  | zero => intro m a _ h; exact absurd h (Nat.not_lt_zero _)
  | succ n ih =>
    intro m a hI hm
    rcases step m a hI (fixN body n) with h | ⟨m', b, h1, h2, h3⟩
    · exact h
    · show Q (body (fixN body n) a)
      rw [h3]
      exact ih m' b h2 (by omega)
theorem rawR_mono {kd : Nat} {cs : List Nat} {w : Nat → Nat} (k : Nat) : (rawR kd cs w k).length ≤ (rawR kd cs w (k + 1)).length := by
  rw [rawR_succ]
  split
  · simp
  · split
    · rename_i e; rw [e]; simp
    · rename_i e; rw [e]; simp
theorem rawR_mono2 {kd : Nat} {cs : List Nat} {w : Nat → Nat} (k : Nat) : ∀ d, (rawR kd cs w k).length ≤ (rawR kd cs w (k + d)).length
  | 0 => Nat.le_refl _
  | d + 1 => Nat.le_trans (rawR_mono2 k d) (rawR_mono (k + d))
theorem joinE_spec {P : List (Nat × Nat × Nat)} (h : 2 ≤ P.length) : (joinE P).length = P.length - 1 ∧ ∀ i, i < P.length - 1 → (joinE P).getD i (0, 0, 0) = if i + 2 < P.length then P.getD (i + 1) (0, 0, 0) else ((P.getD (i + 1) (0, 0, 0)).1, (P.getD (i + 1) (0, 0, 0)).2.1 + (P.getD 0 (0, 0, 0)).2.1, (P.getD (i + 1) (0, 0, 0)).2.2 + (P.getD 0 (0, 0, 0)).2.2) := by
  cases P with
  | nil => simp at h
  | cons p t =>
    rcases e : t.reverse with _ | ⟨q, u⟩
    · have : t = [] := List.reverse_eq_nil_iff.mp e
      rw [this] at h; simp at h
    · have et : t = u.reverse ++ [q] := by
        have := congrArg List.reverse e
        rw [List.reverse_reverse, List.reverse_cons] at this
        exact this
      have ej : joinE (p :: t) = u.reverse ++ [(q.1, q.2.1 + p.2.1, q.2.2 + p.2.2)] := by
        show (match t.reverse with
          | [] => [p]
          | q :: u => u.reverse ++ [(q.1, q.2.1 + p.2.1, q.2.2 + p.2.2)]) = _
        rw [e]
      rw [ej, et]
      refine ⟨by simp, fun i hi => ?_⟩
      simp only [List.length_cons, List.length_append, List.length_reverse, List.length_nil] at hi ⊢
      rw [List.getD_cons_succ, List.getD_cons_zero]
      by_cases a : i < u.length
      · rw [if_pos (by omega), gDa (by rw [List.length_reverse]; exact a), gDa (by rw [List.length_reverse]; exact a)]
      · have a2 : i = u.length := by omega
        rw [if_neg (by omega), gDb (by rw [List.length_reverse]; omega), gDb (by rw [List.length_reverse]; omega), List.length_reverse, a2, Nat.sub_self]
        rfl
theorem PA_join {P : List (Nat × Nat × Nat)} (h : 2 ≤ P.length) {f s v f' s' v' : Nat → Int32} (hP : PA P f s v) (h1 : ∀ i, i < P.length - 1 → f' i = f (i + 1)) (h2 : ∀ i, i < P.length - 1 → s' i = if i + 2 < P.length then s (i + 1) else s (i + 1) + s 0) (h3 : ∀ i, i < P.length - 1 → v' i = if i + 2 < P.length then v (i + 1) else v (i + 1) + v 0) : PA (joinE P) f' s' v' := by
  obtain ⟨e1, e2⟩ := joinE_spec h
  intro i hi
  rw [e1] at hi
  have a := hP (i + 1) (by omega)
  have b := hP 0 (by omega)
  rw [h1 i hi, h2 i hi, h3 i hi, e2 i hi, a.1, a.2.1, a.2.2, b.2.1, b.2.2]
  by_cases c : i + 2 < P.length
  · rw [if_pos c, if_pos c, if_pos c]; exact ⟨rfl, rfl, rfl⟩
  · rw [if_neg c, if_neg c, if_neg c]; exact ⟨rfl, nI_add _ _, nI_add _ _⟩
theorem joinEnds_ok {P : List (Nat × Nat × Nat)} (h : 2 ≤ P.length) (h11 : P.length ≤ 11) {f s v : Nat → Int32} (hP : PA P f s v) : ∃ s' v' f', f_X5_joinEnds (nI P.length) s v f = some (nI (P.length - 1), s', v', f') ∧ PA (joinE P) f' s' v' := by
  unfold f_X5_joinEnds L_X5_joinEnds_52 B_X5_joinEnds_108
  rw [show nI P.length - (1 : Int32) = nI (P.length - 1) from pk_sub (b := 1) (by omega)]
  have i0 : inb (0 : Int32) 11 = true := by decide
  have i1 : inb (nI (P.length - 1)) 11 = true := inb_nI (by omega) (by decide)
  rw [ob_t i1, ob_t i0, ob_t i1, ob_t i1, ob_t i0, ob_t i1, nI_clamp (by omega), show (0 : Int32).toNatClampNeg = 0 from rfl]
  generalize hs1 : upd s (P.length - 1) (s (P.length - 1) + s 0) = s1
  generalize hv1 : upd v (P.length - 1) (v (P.length - 1) + v 0) = v1
  refine upQ _ (fun o => ∃ s' v' f', o = some (nI (P.length - 1), s', v', f') ∧ PA (joinE P) f' s' v') (P.length - 1) (fun j t => (∀ i, i < j → t.1 i = s1 (i + 1) ∧ t.2.1 i = v1 (i + 1) ∧ t.2.2 i = f (i + 1)) ∧ ∀ i, j ≤ i → t.1 i = s1 i ∧ t.2.1 i = v1 i ∧ t.2.2 i = f i) (by omega) ?_ ?_ (j := 0) (by omega) ⟨fun i hi => absurd hi (by omega), fun i _ => ⟨rfl, rfl, rfl⟩⟩
  · rintro j ⟨s2, v2, f2⟩ hj ⟨a1, a2⟩
    dsimp only at a1 a2
    refine Or.inr ⟨(upd s2 j (s2 (j + 1)), upd v2 j (v2 (j + 1)), upd f2 j (f2 (j + 1))), ⟨fun i hi => ?_, fun i hi => ?_⟩, fun rec => ?_⟩
    · dsimp only
      by_cases e : i = j
      · rw [e, pk_us, pk_us, pk_us]; exact a2 (j + 1) (by omega)
      · rw [pk_un e, pk_un e, pk_un e]; exact a1 i (by omega)
    · dsimp only
      rw [pk_un (by omega), pk_un (by omega), pk_un (by omega)]; exact a2 i (by omega)
    · show LB_X5_joinEnds_52 _ _ rec (nI j) s2 v2 f2 = _
      unfold LB_X5_joinEnds_52
      simp (disch := omega) only [lit, nI_add, pk_mul, nI_subT, nI_m1T, nI_clamp, nI_ltI, nI_leI, nI_eq, inb_T, ob_tt, Option.bind_some, ↓reduceIte, shl1_n, shr_n', and_n, or_n, xor_n, n31, dvd_n, pk_us, pk_un, gt_iff_lt, ge_iff_le, m1lt, m1ge]
      rw [if_neg (by omega)]
  · rintro ⟨s2, v2, f2⟩ ⟨a1, a2⟩ rec
    dsimp only at a1 a2
    refine ⟨s2, v2, f2, ?_, PA_join h hP (fun i hi => (a1 i hi).2.2) (fun i hi => ?_) (fun i hi => ?_)⟩
    · show LB_X5_joinEnds_52 _ _ rec (nI (P.length - 1)) s2 v2 f2 = _
      unfold LB_X5_joinEnds_52
      rw [if_pos (nI_le (Nat.le_refl _) (by omega))]
    · rw [(a1 i hi).1, ← hs1]
      by_cases c : i + 2 < P.length
      · rw [if_pos c, pk_un (by omega)]
      · rw [if_neg c, show i + 1 = P.length - 1 by omega, pk_us]
    · rw [(a1 i hi).2.1, ← hv1]
      by_cases c : i + 2 < P.length
      · rw [if_pos c, pk_un (by omega)]
      · rw [if_neg c, show i + 1 = P.length - 1 by omega, pk_us]
theorem ring_ge {n : Nat} {w : Nat → Nat} {cs : List Nat} (hb : ∀ c ∈ cs, c < n) (h1 : cs ≠ []) (h0 : 0 ∉ cs) : 2 ≤ (rawR 1 cs w n).length := by
  cases cs with
  | nil => exact absurd rfl h1
  | cons c t =>
    have hc := hb c List.mem_cons_self
    have c0 : c ≠ 0 := fun z => h0 (by rw [z]; exact List.mem_cons_self)
    obtain ⟨b, rfl⟩ : ∃ b, c = b + 1 := ⟨c - 1, by omega⟩
    have a1 := rawR_ne (kd := 1) (cs := (b + 1) :: t) (w := w) b
    have a2 := rawR_mono2 (kd := 1) (cs := (b + 1) :: t) (w := w) (b + 2) (n - (b + 2))
    rw [show b + 2 + (n - (b + 2)) = n by omega] at a2
    have a3 : rawR 1 ((b + 1) :: t) w (b + 2) = (b + 1, 1, lossN 1 ((b + 1) :: t) w (b + 1)) :: rawR 1 ((b + 1) :: t) w (b + 1) := by
      rw [show b + 2 = (b + 1) + 1 from rfl, rawR_succ, if_pos (isStart_iff.mpr (Or.inl ⟨by decide, List.mem_cons_self⟩))]
    rw [a3, List.length_cons] at a2
    omega
theorem split_ok {kd n : Nat} {w : Nat → Nat} {cs : List Nat} (hV : ChV kd n w cs) {ahead worths row : Nat → Int32} (ha : ∀ i, i ≤ n → ahead i = nI (pre w i)) (hw : ∀ i, i < n → worths i = nI (w i)) (hr : ∀ i, i < cs.length → row i = nI (cs.getD i 0)) {z1 : Nat} (hz : cs.length ≤ z1) (hz1 : z1 < 100) (f s v : Nat → Int32) : (pcs kd n w cs).length ≤ 11 ∧ ∃ f' s' v', f_X5_split z1 f s v (nI kd) (nI n) ahead worths row (nI cs.length) = some (nI (pcs kd n w cs).length, f', s', v') ∧ PA (pcs kd n w cs) f' s' v' := by
  obtain ⟨hk, hn1, hn, hw9, h5, hs, hb⟩ := hV
  have hN := notchN_le (kd := kd) (n := n)
  have hsi := srt_iff.mp hs
  unfold f_X5_split L_X5_split_11
  have hfin : frm cs cs.length ≤ n := by
    unfold frm
    by_cases h : cs.length = 0
    · rw [if_pos h]; omega
    · rw [if_neg h]
      have := hb _ (gD_mem (show cs.length - 1 < cs.length by omega))
      omega
  have hlen : ∀ i, i ≤ cs.length → (rawR kd cs w (frm cs i)).length ≤ 2 * i := by
    intro i
    induction i with
    | zero => intro _; exact Nat.le_of_eq rfl
    | succ i ih =>
      intro hi
      obtain ⟨_, _, _, -, h, -⟩ := split_step hk hn h5 hs hb ha hw (fun i hi => (hw9 i hi).2) hr hz hz1 (i := i) (by omega) (f := fun j => nI ((rawR kd cs w (frm cs i)).reverse.getD j (0, 0, 0)).1) (s := fun j => nI ((rawR kd cs w (frm cs i)).reverse.getD j (0, 0, 0)).2.1) (v := fun j => nI ((rawR kd cs w (frm cs i)).reverse.getD j (0, 0, 0)).2.2) (ih (by omega)) (by
        generalize rawR kd cs w (frm cs i) = l
        clear ih
        have : ∀ (m l : List (Nat × Nat × Nat)), PR l (fun j => nI ((l.reverse ++ m).getD j (0, 0, 0)).1) (fun j => nI ((l.reverse ++ m).getD j (0, 0, 0)).2.1) (fun j => nI ((l.reverse ++ m).getD j (0, 0, 0)).2.2) := by
          intro m l
          induction l generalizing m with
          | nil => exact trivial
          | cons q t ih2 =>
            have e : (q :: t).reverse ++ m = t.reverse ++ (q :: m) := by simp
            rw [e]
            refine ⟨?_, ih2 (q :: m)⟩
            have : (t.reverse ++ q :: m).getD t.length (0, 0, 0) = q := by
              rw [gDb (by simp), List.length_reverse, Nat.sub_self]; rfl
            exact ⟨congrArg (fun z => nI z.1) this, congrArg (fun z => nI z.2.1) this, congrArg (fun z => nI z.2.2) this⟩
        have := this [] l
        rw [List.append_nil] at this
        exact this) (fun _ => none) (fun _ => none)
      exact h
  have hfl : ∀ {f s v : Nat → Int32}, PR (rawR kd cs w (frm cs cs.length)) f s v → ∃ f' s' v', f_X5_add (nI (rawR kd cs w (frm cs cs.length)).length) f s v ahead (nI (frm cs cs.length)) (nI n) = some (nI (rawR kd cs w n).length, f', s', v') ∧ PR (rawR kd cs w n) f' s' v' ∧ (rawR kd cs w n).length ≤ 2 * cs.length + 1 := by
    intro f s v h
    have hl := hlen cs.length (Nat.le_refl _)
    by_cases hlt : frm cs cs.length < n
    · have e0 := rawR_gap (kd := kd) (w := w) hs (Nat.le_refl _) hlt (fun z => absurd z (by omega))
      obtain ⟨f1, s1, v1, g1, g2⟩ := add_ok (b := n) (by omega) hn hlt (Nat.le_refl _) ha h
      rw [g1, e0]
      exact ⟨f1, s1, v1, rfl, g2, by simp; omega⟩
    · have e0 : frm cs cs.length = n := by omega
      rw [e0] at h hl ⊢
      refine ⟨f, s, v, ?_, h, by omega⟩
      unfold f_X5_add B_X5_add_59
      rw [if_pos (nI_le (Nat.le_refl _) (by omega))]
  have hP11 : (rawR kd cs w n).length ≤ 11 := by
    by_cases hlt : frm cs cs.length < n
    · have e0 := rawR_gap (kd := kd) (w := w) hs (Nat.le_refl _) hlt (fun z => absurd z (by omega))
      have hl := hlen cs.length (Nat.le_refl _)
      rw [e0]; simp; omega
    · have e0 : frm cs cs.length = n := by omega
      have hl := hlen cs.length (Nat.le_refl _)
      rw [e0] at hl; omega
  have c0 : cs ≠ [] → (0 ∈ cs ↔ cs.getD 0 0 = 0) := by
    intro hne
    have hp : 0 < cs.length := List.length_pos_iff.mpr hne
    constructor
    · intro h
      obtain ⟨j, hj, e⟩ := mem_gD h
      by_cases hj0 : j = 0
      · rw [hj0] at e; exact e
      · have := hsi 0 j (by omega) hj; omega
    · intro h; rw [← h]; exact gD_mem hp
  have cn : cs ≠ [] → kd = 1 → (n - 1 ∈ cs ↔ cs.getD (cs.length - 1) 0 = n - 1) := by
    intro hne h1
    have hp : 0 < cs.length := List.length_pos_iff.mpr hne
    constructor
    · intro h
      obtain ⟨j, hj, e⟩ := mem_gD h
      by_cases hj0 : j = cs.length - 1
      · rw [hj0] at e; exact e
      · have := hsi j (cs.length - 1) (by omega) (by omega)
        have := hb _ (gD_mem (show cs.length - 1 < cs.length by omega))
        omega
    · intro h; rw [← h]; exact gD_mem (by omega)
  constructor
  · unfold pcs
    split
    · rename_i h
      have h1 := h.1
      subst h1
      have := (joinE_spec (P := (rawR 1 cs w n).reverse) (by rw [List.length_reverse]; exact ring_ge (fun c hc => by have := hb c hc; omega) h.2.1 h.2.2.1)).1
      rw [this, List.length_reverse]; omega
    · rw [List.length_reverse]; exact hP11
  · refine loopR _ (fun o => ∃ f' s' v', o = some (nI (pcs kd n w cs).length, f', s', v') ∧ PA (pcs kd n w cs) f' s' v') (fun m a => ∃ (i : Nat) (f s v : Nat → Int32), a = (nI (frm cs i), nI i, nI (rawR kd cs w (frm cs i)).length, f, s, v) ∧ i ≤ cs.length ∧ m = cs.length - i ∧ PR (rawR kd cs w (frm cs i)) f s v) ?_ FUEL cs.length _ ⟨0, f, s, v, rfl, by omega, by omega, trivial⟩ (fuel_lt (by omega))
    rintro m a ⟨i, f, s, v, rfl, hi, rfl, hP⟩ rec
    by_cases hik : i = cs.length
    · subst hik
      refine Or.inl ?_
      show ∃ f' s' v', LB_X5_split_11 _ _ _ _ _ _ _ rec (nI (frm cs cs.length)) (nI cs.length) (nI (rawR kd cs w (frm cs cs.length)).length) f s v = _ ∧ _
      unfold LB_X5_split_11
      rw [if_pos (nI_le (Nat.le_refl _) (by omega))]
      dsimp only
      unfold B_X5_split_83 B_X5_split_130
      obtain ⟨f1, s1, v1, g1, g2, g3⟩ := hfl hP
      have hPA := PA_of g2
      rw [g1, Option.bind_some]
      dsimp only
      have noj : ¬ (kd = 1 ∧ cs ≠ [] ∧ 0 ∉ cs ∧ n - 1 ∉ cs) → ∃ f' s' v', some (nI (rawR kd cs w n).length, f1, s1, v1) = some (nI (pcs kd n w cs).length, f', s', v') ∧ PA (pcs kd n w cs) f' s' v' := by
        intro hn
        unfold pcs
        rw [if_neg hn, List.length_reverse]
        exact ⟨f1, s1, v1, rfl, hPA⟩
      by_cases h1 : kd = 1
      · rw [if_pos (by rw [h1]; rfl)]
        by_cases hne : cs = []
        · rw [if_pos (by rw [hne]; decide)]
          exact noj (fun z => z.2.1 hne)
        · have hp : 0 < cs.length := List.length_pos_iff.mpr hne
          have b0 := hb _ (gD_mem hp)
          have bk := hb _ (gD_mem (show cs.length - 1 < cs.length by omega))
          rw [if_neg (show ¬ nI cs.length ≤ 0 from nI_nle hp (by omega)), ob_t (show inb (0 : Int32) z1 = true from inb_nI (i := 0) (by omega) (by omega)), show (0 : Int32).toNatClampNeg = 0 from rfl, hr 0 hp]
          by_cases z0 : cs.getD 0 0 = 0
          · rw [if_pos (by rw [z0]; rfl)]
            exact noj (fun z => z.2.2.1 ((c0 hne).mpr z0))
          · rw [if_neg (show ¬ nI (cs.getD 0 0) = (0 : Int32) from nI_ne0 (by omega) (by omega)), show nI cs.length - (1 : Int32) = nI (cs.length - 1) from pk_sub (b := 1) (by omega), ob_t (inb_nI (by omega) (by omega)), nI_clamp (by omega), hr _ (by omega), show nI n - (1 : Int32) = nI (n - 1) from pk_sub (b := 1) (by omega)]
            by_cases zn : cs.getD (cs.length - 1) 0 = n - 1
            · rw [if_pos (by rw [zn])]
              exact noj (fun z => z.2.2.2 ((cn hne h1).mpr zn))
            · rw [if_neg (fun z => zn ((nI_eq (by omega) (by omega)).mp z))]
              have hc : kd = 1 ∧ cs ≠ [] ∧ 0 ∉ cs ∧ n - 1 ∉ cs := ⟨h1, hne, fun z => z0 ((c0 hne).mp z), fun z => zn ((cn hne h1).mp z)⟩
              have h2 : 2 ≤ (rawR kd cs w n).reverse.length := by
                rw [List.length_reverse, h1]
                exact ring_ge (fun c hc => by have := hb c hc; omega) hne hc.2.2.1
              obtain ⟨s2, v2, f2, g4, g5⟩ := joinEnds_ok h2 (by rw [List.length_reverse]; exact hP11) hPA
              rw [List.length_reverse] at g4
              rw [g4, Option.bind_some]
              unfold pcs
              rw [if_pos hc, (joinE_spec h2).1, List.length_reverse]
              exact ⟨f2, s2, v2, rfl, g5⟩
      · rw [if_neg (show ¬ nI kd = (1 : Int32) from fun z => h1 ((nI_eq (b := 1) (by omega) (by decide)).mp z))]
        exact noj (fun z => h1 z.1)
    · have hil : i < cs.length := by omega
      obtain ⟨f', s', v', h1, -, h3⟩ := split_step hk hn h5 hs hb ha hw (fun i hi => (hw9 i hi).2) hr hz hz1 hil (hlen i hi) hP (fun t => B_X5_split_83 z1 t.2.2.1 t.2.2.2.1 t.2.2.2.2.1 t.2.2.2.2.2 (nI kd) (nI n) ahead row (nI cs.length) t.1) rec
      exact Or.inr ⟨cs.length - (i + 1), (nI (frm cs (i + 1)), nI (i + 1), nI (rawR kd cs w (frm cs (i + 1))).length, f', s', v'), by omega, ⟨i + 1, f', s', v', rfl, by omega, rfl, h3⟩, h1⟩
/-! the reference's way -/
theorem layC {mw : Nat → Int32} {k x : Nat} {q : Nat × Nat × Nat} {t : List (Nat × Nat × Nat)} {f s v : Nat → Int32} (hk : k < 24) (hl : t.length < 24) (hx : x ≤ 1) (hxw : ∃ y, x ≤ y ∧ mw (2 + k) = nI y) (h : PR (q :: t) f s v) (kx rec : Int32 × Int32 × (Nat → Int32) × (Nat → Int32) × (Nat → Int32) → Option (Int32 × (Nat → Int32) × (Nat → Int32) × (Nat → Int32))) : ∃ s' v', B_X11_lay_111 kx rec (nI (t.length + 1)) mw f s v (nI k) (nI x) = rec (nI (k + 1), nI (t.length + 1), f, s', v') ∧ ∀ y, mw (2 + k) = nI y → x ≤ y → PR ((q.1, q.2.1 + 1, q.2.2 + (y - x)) :: t) f s' v' := by
  obtain ⟨⟨h1, h2, h3⟩, h4⟩ := h
  obtain ⟨y, hy, ey⟩ := hxw
  unfold B_X11_lay_111 B_X11_lay_166
  refine ⟨upd s t.length (nI (q.2.1 + 1)), upd v t.length (nI (q.2.2 + (y - x))), ?_, fun y' e' hy' => ⟨⟨h1, pk_us, ?_⟩, PR_congr (fun i hi => ⟨rfl, pk_un (by omega), pk_un (by omega)⟩) h4⟩⟩
  · have hc : x = 0 ∨ x = 1 := by omega
    rcases hc with rfl | rfl
    · simp (disch := omega) only [lit, nI_add, pk_mul, nI_subT, nI_m1T, nI_clamp, nI_ltI, nI_leI, nI_eq, inb_T, ob_tt, Option.bind_some, ↓reduceIte, shl1_n, shr_n', and_n, or_n, xor_n, n31, dvd_n, pk_us, pk_un, gt_iff_lt, ge_iff_le, m1lt, m1ge, Nat.add_sub_cancel, ey, h2, h3, Nat.sub_zero]
    · simp (disch := omega) only [lit, nI_add, pk_mul, nI_subT, nI_m1T, nI_clamp, nI_ltI, nI_leI, nI_eq, inb_T, ob_tt, Option.bind_some, ↓reduceIte, shl1_n, shr_n', and_n, or_n, xor_n, n31, dvd_n, pk_us, pk_un, gt_iff_lt, ge_iff_le, m1lt, m1ge, Nat.add_sub_cancel, ey, h2, h3]
      rw [if_neg (by decide)]
  · rw [pk_us]
    have e2 : nI y = nI y' := ey.symm.trans e'
    show nI (q.2.2 + (y - x)) = nI (q.2.2 + (y' - x))
    rw [← nI_add, ← nI_add, ← pk_sub hy, ← pk_sub hy', e2]
theorem layB {kd : Nat} {w : Nat → Nat} {cs : List Nat} {mw : Nat → Int32} {k : Nat} {q : Nat × Nat × Nat} {t : List (Nat × Nat × Nat)} {f s v : Nat → Int32} (hs : cs.Pairwise (· < ·)) (hb : ∀ c ∈ cs, c < 31) (h3 : kd ≤ 3) (e0 : mw 0 = nI kd) (ew : mw (2 + k) = nI (w k)) (hw : 1 ≤ w k ∧ w k ≤ 9) (hk : k < 24) (hl : t.length < 24) (h : PR (q :: t) f s v) (kx rec : Int32 × Int32 × (Nat → Int32) × (Nat → Int32) × (Nat → Int32) → Option (Int32 × (Nat → Int32) × (Nat → Int32) × (Nat → Int32))) : ∃ s' v', B_X11_lay_76 kx rec (nI (t.length + 1)) mw f s v (nI (mask cs)) (nI k) = rec (nI (k + 1), nI (t.length + 1), f, s', v') ∧ PR ((q.1, q.2.1 + 1, q.2.2 + lossN kd cs w k) :: t) f s' v' := by
  obtain ⟨s0, v0, a0, b0⟩ := layC (x := 0) hk hl (by decide) ⟨w k, by omega, ew⟩ h kx rec
  obtain ⟨s1, v1, a1, b1⟩ := layC (x := 1) hk hl (by decide) ⟨w k, by omega, ew⟩ h kx rec
  have b0 := b0 (w k) ew (by omega)
  have b1 := b1 (w k) ew (by omega)
  rw [Nat.sub_zero] at b0
  have l0 : ¬ (kd = 3 ∧ k ∈ cs ∧ 1 < w k) → ∃ s' v', B_X11_lay_110 kx rec (nI (t.length + 1)) mw f s v (nI k) = rec (nI (k + 1), nI (t.length + 1), f, s', v') ∧ PR ((q.1, q.2.1 + 1, q.2.2 + lossN kd cs w k) :: t) f s' v' := by
    intro hn
    unfold B_X11_lay_110 lossN
    rw [if_neg hn]
    exact ⟨s0, v0, a0, b0⟩
  unfold B_X11_lay_76
  rw [ob_t (show inb (0 : Int32) 60 = true by decide), show (0 : Int32).toNatClampNeg = 0 from rfl, e0, hasM hs hb (by omega), Option.bind_some]
  by_cases c3 : kd = 3
  · rw [if_pos (by rw [c3]; rfl)]
    by_cases ck : k ∈ cs
    · rw [if_pos ck, if_neg n10, show (2 : Int32) + nI k = nI (2 + k) from nI_add 2 k, ob_t (inb_nI (by omega) (by decide)), nI_clamp (by omega), ew]
      by_cases c1 : w k ≤ 1
      · rw [if_pos (show nI (w k) ≤ (1 : Int32) from nI_le c1 (by decide))]
        exact l0 (fun z => by omega)
      · rw [if_neg (show ¬ nI (w k) ≤ (1 : Int32) from nI_ge (a := 1) (by omega) (by omega))]
        unfold lossN
        rw [if_pos ⟨c3, ck, by omega⟩]
        exact ⟨s1, v1, a1, b1⟩
    · rw [if_neg ck, if_pos rfl]
      exact l0 (fun z => ck z.2.1)
  · rw [if_neg (show ¬ nI kd = (3 : Int32) from fun z => c3 ((nI_eq (b := 3) (by omega) (by decide)).mp z))]
    exact l0 (fun z => c3 z.1)
theorem layA {kd : Nat} {cs : List Nat} {mw : Nat → Int32} {k n : Nat} {pc : Int32} {f s v : Nat → Int32} (hs : cs.Pairwise (· < ·)) (hb : ∀ c ∈ cs, c < 31) (h3 : kd ≤ 3) (e0 : mw 0 = nI kd) (e1 : mw 1 = nI n) (hk : k < n) (hn : n ≤ 24) (kx rec : Int32 × Int32 × (Nat → Int32) × (Nat → Int32) × (Nat → Int32) → Option (Int32 × (Nat → Int32) × (Nat → Int32) × (Nat → Int32))) : LB_X11_lay_7 mw (nI (mask cs)) kx rec (nI k) pc f s v = if isStart kd cs k = true then B_X11_lay_71 kx rec pc mw f s v (nI (mask cs)) (nI k) else B_X11_lay_76 kx rec pc mw f s v (nI (mask cs)) (nI k) := by
  unfold LB_X11_lay_7 B_X11_lay_39 B_X11_lay_40 B_X11_lay_55 B_X11_lay_60
  rw [ob_t (show inb (1 : Int32) 60 = true by decide), ob_t (show inb (0 : Int32) 60 = true by decide), show (0 : Int32).toNatClampNeg = 0 from rfl, show (1 : Int32).toNatClampNeg = 1 from rfl, e0, e1, if_neg (nI_ge hk (by omega)), hasM hs hb (show k < 32 by omega), Option.bind_some]
  have hm : ¬ k = 0 → f_X11_has (nI (mask cs)) (nI k - 1) = some (if k - 1 ∈ cs then 1 else 0) := fun h0 => by
    rw [show nI k - (1 : Int32) = nI (k - 1) from pk_sub (b := 1) (by omega), hasM hs hb (by omega)]
  have ek : (nI k = (0 : Int32)) ↔ k = 0 := nI_eq (b := 0) (by omega) (by decide)
  have n10' : ((1 : Int32) = 0) = False := eq_false n10
  by_cases c2 : kd < 2
  · rw [if_neg (show ¬ (2 : Int32) ≤ nI kd from nI_ge (b := 2) c2 (by decide))]
    by_cases c0 : k = 0
    · have hS : isStart kd cs k = true := isStart_iff.mpr (Or.inr (Or.inl c0))
      have c0' := ek.mpr c0
      rw [if_pos c0', if_pos c0']
      by_cases ck : k ∈ cs <;> simp only [ck, hS, n10', ↓reduceIte]
    · have c0' : ¬ nI k = 0 := fun z => c0 (ek.mp z)
      rw [if_neg c0', if_neg c0', hm c0, Option.bind_some, Option.bind_some]
      by_cases ck : k ∈ cs
      · have hS : isStart kd cs k = true := isStart_iff.mpr (Or.inl ⟨c2, ck⟩)
        by_cases c1 : k - 1 ∈ cs <;> simp only [ck, c1, hS, n10', ↓reduceIte]
      · by_cases c1 : k - 1 ∈ cs
        · have hS : isStart kd cs k = true := isStart_iff.mpr (Or.inr (Or.inr c1))
          simp only [ck, c1, hS, n10', ↓reduceIte]
        · have hS : isStart kd cs k = false := by
            rw [Bool.eq_false_iff]
            intro z
            rcases isStart_iff.mp z with z | z | z
            · exact ck z.2
            · exact c0 z
            · exact c1 z
          simp only [ck, c1, hS, n10', ↓reduceIte, Bool.false_eq_true]
  · rw [if_pos (show (2 : Int32) ≤ nI kd from nI_le (a := 2) (by omega) (by omega))]
    by_cases c0 : k = 0
    · have hS : isStart kd cs k = true := isStart_iff.mpr (Or.inr (Or.inl c0))
      rw [if_pos (ek.mpr c0)]
      simp only [hS, n10', ↓reduceIte]
    · rw [if_neg (fun z => c0 (ek.mp z)), hm c0, Option.bind_some]
      by_cases c1 : k - 1 ∈ cs
      · have hS : isStart kd cs k = true := isStart_iff.mpr (Or.inr (Or.inr c1))
        simp only [c1, hS, n10', ↓reduceIte]
      · have hS : isStart kd cs k = false := by
          rw [Bool.eq_false_iff]
          intro z
          rcases isStart_iff.mp z with z | z | z
          · exact c2 z.1
          · exact c0 z
          · exact c1 z
        simp only [c1, hS, n10', ↓reduceIte, Bool.false_eq_true]
theorem joinM_ok {P : List (Nat × Nat × Nat)} (h : 2 ≤ P.length) (h24 : P.length ≤ 24) {f s v : Nat → Int32} (hP : PA P f s v) : ∃ f' s' v', B_X11_lay_220 (nI P.length) f s v 1 = some (nI (P.length - 1), f', s', v') ∧ PA (joinE P) f' s' v' := by
  unfold B_X11_lay_220 L_X11_lay_253 B_X11_lay_316 B_X11_lay_347
  rw [if_neg n10, show nI P.length - (1 : Int32) = nI (P.length - 1) from pk_sub (b := 1) (by omega), show nI (P.length - 1) - (1 : Int32) = nI (P.length - 1 - 1) from pk_sub (b := 1) (by omega)]
  have i0 : inb (0 : Int32) 24 = true := by decide
  rw [ob_t i0, ob_t i0, show (0 : Int32).toNatClampNeg = 0 from rfl]
  refine upQ _ (fun o => ∃ f' s' v', o = some (nI (P.length - 1), f', s', v') ∧ PA (joinE P) f' s' v') (P.length - 1) (fun j t => (∀ i, i < j → t.1 i = f (i + 1) ∧ t.2.1 i = s (i + 1) ∧ t.2.2 i = v (i + 1)) ∧ ∀ i, j ≤ i → t.1 i = f i ∧ t.2.1 i = s i ∧ t.2.2 i = v i) (by omega) ?_ ?_ (j := 0) (by omega) ⟨fun i hi => absurd hi (by omega), fun i _ => ⟨rfl, rfl, rfl⟩⟩
  · rintro j ⟨s2, v2, f2⟩ hj ⟨a1, a2⟩
    dsimp only at a1 a2
    refine Or.inr ⟨(upd s2 j (s2 (j + 1)), upd v2 j (v2 (j + 1)), upd f2 j (f2 (j + 1))), ⟨fun i hi => ?_, fun i hi => ?_⟩, fun rec => ?_⟩
    · dsimp only
      by_cases e : i = j
      · rw [e, pk_us, pk_us, pk_us]; exact a2 (j + 1) (by omega)
      · rw [pk_un e, pk_un e, pk_un e]; exact a1 i (by omega)
    · dsimp only
      rw [pk_un (by omega), pk_un (by omega), pk_un (by omega)]; exact a2 i (by omega)
    · show LB_X11_lay_253 _ _ rec (nI j) s2 v2 f2 = _
      unfold LB_X11_lay_253
      simp (disch := omega) only [lit, nI_add, pk_mul, nI_subT, nI_m1T, nI_clamp, nI_ltI, nI_leI, nI_eq, inb_T, ob_tt, Option.bind_some, ↓reduceIte, shl1_n, shr_n', and_n, or_n, xor_n, n31, dvd_n, pk_us, pk_un, gt_iff_lt, ge_iff_le, m1lt, m1ge]
      rw [if_neg (by omega)]
  · rintro ⟨f2, s2, v2⟩ ⟨a1, a2⟩ rec
    dsimp only at a1 a2
    have i1 : inb (nI (P.length - 1 - 1)) 24 = true := inb_nI (by omega) (by decide)
    refine ⟨f2, upd s2 (P.length - 1 - 1) (s2 (P.length - 1 - 1) + s 0), upd v2 (P.length - 1 - 1) (v2 (P.length - 1 - 1) + v 0), ?_, PA_join h hP (fun i hi => (a1 i hi).1) (fun i hi => ?_) (fun i hi => ?_)⟩
    · show LB_X11_lay_253 _ _ rec (nI (P.length - 1)) f2 s2 v2 = _
      unfold LB_X11_lay_253
      rw [if_pos (nI_le (Nat.le_refl _) (by omega))]
      dsimp only
      rw [ob_t i1, ob_t i1, ob_t i1, ob_t i1, nI_clamp (by omega)]
    · by_cases c : i + 2 < P.length
      · rw [if_pos c, pk_un (by omega), (a1 i hi).2.1]
      · rw [if_neg c, show P.length - 1 - 1 = i by omega, pk_us, (a1 i hi).2.1]
    · by_cases c : i + 2 < P.length
      · rw [if_pos c, pk_un (by omega), (a1 i hi).2.2]
      · rw [if_neg c, show P.length - 1 - 1 = i by omega, pk_us, (a1 i hi).2.2]
theorem lay_ok {kd n : Nat} {w : Nat → Nat} {cs : List Nat} (hV : ChV kd n w cs) {mw : Nat → Int32} (e0 : mw 0 = nI kd) (e1 : mw 1 = nI n) (ew : ∀ i, i < n → mw (2 + i) = nI (w i)) (f s v : Nat → Int32) : ∃ f' s' v', f_X11_lay mw f s v (nI (mask cs)) = some (nI (pcs kd n w cs).length, f', s', v') ∧ PA (pcs kd n w cs) f' s' v' := by
  obtain ⟨hk, hn1, hn, hw9, h5, hs, hb⟩ := hV
  have hN := notchN_le (kd := kd) (n := n)
  have hb31 : ∀ c ∈ cs, c < 31 := fun c hc => by have := hb c hc; omega
  unfold f_X11_lay L_X11_lay_7
  refine loopR _ (fun o => ∃ f' s' v', o = some (nI (pcs kd n w cs).length, f', s', v') ∧ PA (pcs kd n w cs) f' s' v') (fun m a => ∃ (k : Nat) (f s v : Nat → Int32), a = (nI k, nI (rawR kd cs w k).length, f, s, v) ∧ k ≤ n ∧ m = n - k ∧ PR (rawR kd cs w k) f s v) ?_ FUEL n _ ⟨0, f, s, v, rfl, by omega, by omega, trivial⟩ (fuel_lt (by omega))
  rintro m a ⟨k, f, s, v, rfl, hkn, rfl, hP⟩ rec
  by_cases hke : k = n
  · subst hke
    refine Or.inl ?_
    show ∃ f' s' v', LB_X11_lay_7 _ _ _ rec (nI k) (nI (rawR kd cs w k).length) f s v = _ ∧ _
    unfold LB_X11_lay_7
    rw [ob_t (show inb (1 : Int32) 60 = true by decide), show (1 : Int32).toNatClampNeg = 1 from rfl, e1, if_pos (nI_le (Nat.le_refl _) (by omega))]
    dsimp only
    have hPA := PA_of hP
    have hL := rawR_le (kd := kd) (cs := cs) (w := w) k
    have noj : ¬ (kd = 1 ∧ cs ≠ [] ∧ 0 ∉ cs ∧ k - 1 ∉ cs) → ∃ f' s' v', B_X11_lay_219 (nI (rawR kd cs w k).length) f s v = some (nI (pcs kd k w cs).length, f', s', v') ∧ PA (pcs kd k w cs) f' s' v' := by
      intro hn
      unfold pcs B_X11_lay_219 B_X11_lay_220 B_X11_lay_347
      rw [if_pos rfl, if_neg hn, List.length_reverse]
      exact ⟨f, s, v, rfl, hPA⟩
    unfold B_X11_lay_174
    rw [ob_t (show inb (0 : Int32) 60 = true by decide), show (0 : Int32).toNatClampNeg = 0 from rfl, e0, ob_t (show inb (1 : Int32) 60 = true by decide), show (1 : Int32).toNatClampNeg = 1 from rfl, e1, show f_X11_has (nI (mask cs)) 0 = some (if 0 ∈ cs then 1 else 0) from hasM hs hb31 (c := 0) (by decide), show nI k - (1 : Int32) = nI (k - 1) from pk_sub (b := 1) (by omega), hasM hs hb31 (c := k - 1) (by omega), Option.bind_some, Option.bind_some]
    by_cases h1 : kd = 1
    · rw [if_pos (by rw [h1]; rfl)]
      by_cases hp1 : (rawR kd cs w k).length ≤ 1
      · rw [if_pos (show nI (rawR kd cs w k).length ≤ (1 : Int32) from nI_le hp1 (by decide))]
        refine noj (fun z => ?_)
        have := ring_ge (w := w) (n := k) (fun c hc => by have := hb c hc; omega) z.2.1 z.2.2.1
        rw [h1] at hp1; omega
      · rw [if_neg (show ¬ nI (rawR kd cs w k).length ≤ (1 : Int32) from nI_ge (a := 1) (by omega) (by omega))]
        by_cases z0 : 0 ∈ cs
        · rw [if_pos z0, if_neg n10]
          exact noj (fun z => z.2.2.1 z0)
        · rw [if_neg z0, if_pos rfl]
          by_cases zn : k - 1 ∈ cs
          · rw [if_pos zn, if_neg n10]
            exact noj (fun z => z.2.2.2 zn)
          · rw [if_neg zn, if_pos rfl]
            have hne : cs ≠ [] := by
              intro e
              subst e
              have hone : ∀ j, (rawR kd [] w (j + 1)).length = 1 := by
                intro j
                induction j with
                | zero => rw [rawR_succ, if_pos isStart0]; rfl
                | succ j ih =>
                  rw [rawR_succ, if_neg (fun z => by rcases isStart_iff.mp z with z | z | z; cases z.2; omega; cases z)]
                  split
                  · rename_i e; rw [e] at ih; cases ih
                  · rename_i e; rw [e] at ih; exact ih
              have := hone (k - 1)
              rw [show k - 1 + 1 = k by omega] at this
              omega
            have hc : kd = 1 ∧ cs ≠ [] ∧ 0 ∉ cs ∧ k - 1 ∉ cs := ⟨h1, hne, z0, zn⟩
            have h2 : 2 ≤ (rawR kd cs w k).reverse.length := by rw [List.length_reverse]; omega
            obtain ⟨f2, s2, v2, g4, g5⟩ := joinM_ok h2 (by rw [List.length_reverse]; omega) hPA
            rw [List.length_reverse] at g4
            rw [g4]
            unfold pcs
            rw [if_pos hc, (joinE_spec h2).1, List.length_reverse]
            exact ⟨f2, s2, v2, rfl, g5⟩
    · rw [if_neg (show ¬ nI kd = (1 : Int32) from fun z => h1 ((nI_eq (b := 1) (by omega) (by decide)).mp z))]
      exact noj (fun z => h1 z.1)
  · have hk2 : k < n := by omega
    have hL := rawR_le (kd := kd) (cs := cs) (w := w) k
    refine Or.inr ?_
    show ∃ m' b, _ ∧ _ ∧ LB_X11_lay_7 _ _ _ rec (nI k) (nI (rawR kd cs w k).length) f s v = _
    rw [layA hs hb31 hk e0 e1 hk2 hn]
    by_cases st : isStart kd cs k = true
    · rw [if_pos st]
      unfold B_X11_lay_71 f_X11_addPiece
      have ii : inb (nI (rawR kd cs w k).length) 24 = true := inb_nI (by omega) (by decide)
      rw [ob_t ii, ob_t ii, ob_t ii, nI_clamp (by omega), Option.bind_some, nI_1]
      obtain ⟨s', v', g1, g2⟩ := layB (q := (k, 0, 0)) hs hb31 hk e0 (ew k hk2) (hw9 k hk2) (by omega) (by omega) (PR_push hP k 0 0) (fun t => B_X11_lay_174 t.2.1 mw t.2.2.1 t.2.2.2.1 t.2.2.2.2 (nI (mask cs))) rec
      have er : rawR kd cs w (k + 1) = (k, 0 + 1, 0 + lossN kd cs w k) :: rawR kd cs w k := by
        rw [rawR_succ, if_pos st, Nat.zero_add, Nat.zero_add]
      refine ⟨n - (k + 1), (nI (k + 1), nI (rawR kd cs w (k + 1)).length, upd f (rawR kd cs w k).length (nI k), s', v'), by omega, ⟨k + 1, upd f (rawR kd cs w k).length (nI k), s', v', rfl, by omega, rfl, ?_⟩, ?_⟩
      · rw [er]; exact g2
      · rw [er]; exact g1
    · rw [if_neg st]
      have er := rawR_succ (kd := kd) (cs := cs) (w := w) k
      rw [if_neg st] at er
      cases k with
      | zero => exact absurd isStart0 st
      | succ k =>
        have hne := rawR_ne (kd := kd) (cs := cs) (w := w) k
        generalize rawR kd cs w (k + 1) = l at *
        cases l with
        | nil => simp at hne
        | cons q t =>
          have er : rawR kd cs w (k + 1 + 1) = (q.1, q.2.1 + 1, q.2.2 + lossN kd cs w (k + 1)) :: t := er
          rw [List.length_cons] at hL
          obtain ⟨s', v', g1, g2⟩ := layB hs hb31 hk e0 (ew (k + 1) hk2) (hw9 (k + 1) hk2) (by omega) (by omega) hP (fun t => B_X11_lay_174 t.2.1 mw t.2.2.1 t.2.2.2.1 t.2.2.2.2 (nI (mask cs))) rec
          refine ⟨n - (k + 1 + 1), _, by omega, ⟨k + 1 + 1, f, s', v', rfl, by omega, rfl, ?_⟩, ?_⟩
          · rw [er]; exact g2
          · rw [er]; exact g1
