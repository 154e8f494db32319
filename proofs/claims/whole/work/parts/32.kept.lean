/-! kept -/
theorem upK2 {ρ σ β : Type} (body : (ρ × Int32 × σ → Option β) → ρ × Int32 × σ → Option β) (kx : ρ × Int32 × σ → Option β) (N : Nat) (I : Nat → ρ → σ → Prop) (hN : N < 2 ^ 39) (step : ∀ j x s, j < N → I j x s → ∀ rec, ∃ x' s', I (j + 1) x' s' ∧ body rec (x, nI j, s) = rec (x', nI (j + 1), s')) (fin : ∀ x s, I N x s → ∀ rec, body rec (x, nI N, s) = kx (x, nI N, s)) {j : Nat} {x : ρ} {s : σ} (hj : j ≤ N) (h : I j x s) : ∃ x' s', I N x' s' ∧ fixN body FUEL (x, nI j, s) = kx (x', nI N, s') := by
  refine loopR body (fun o => ∃ x' s', I N x' s' ∧ o = kx (x', nI N, s')) (fun m a => ∃ j x s, a = (x, nI j, s) ∧ j ≤ N ∧ m = N - j ∧ I j x s) ?_ FUEL (N - j) _ ⟨j, x, s, rfl, hj, rfl, h⟩ (fuel_lt (by omega))
  rintro m a ⟨j, x, s, rfl, hj, rfl, hI⟩ rec
  by_cases e : j = N
  · subst e; exact Or.inl ⟨x, s, hI, fin x s hI rec⟩
  · obtain ⟨x', s', h1, h2⟩ := step j x s (by omega) hI rec
    exact Or.inr ⟨N - (j + 1), _, by omega, ⟨j + 1, x', s', rfl, by omega, rfl, h1⟩, h2⟩
def tf (v : Int32) (p : Prop) : Prop := (v = 1 ∧ p) ∨ (v = 0 ∧ ¬ p)
theorem tf_congr {v : Int32} {p q : Prop} (h : p ↔ q) (t : tf v p) : tf v q := by
  rcases t with ⟨a, b⟩ | ⟨a, b⟩
  · exact Or.inl ⟨a, h.mp b⟩
  · exact Or.inr ⟨a, fun z => b (h.mpr z)⟩
def sub (T S : Nat) : Prop := ∀ i, T.testBit i = true → S.testBit i = true
theorem subC {T S : Nat} (hT : T < 2 ^ 31) : (nI T &&& (nI S ^^^ (-1 : Int32)) = 0) ↔ sub T S := by
  rw [← Int32.toBitVec_inj, Int32.toBitVec_and, Int32.toBitVec_xor, bv_nI, bv_nI, show (-1 : Int32).toBitVec = BitVec.allOnes 32 by decide, show (0 : Int32).toBitVec = 0#32 from rfl]
  constructor
  · intro h i hi
    have h9 : i < 31 := by
      refine Nat.lt_of_not_le (fun z => ?_)
      rw [Nat.testBit_lt_two_pow (Nat.lt_of_lt_of_le hT (Nat.pow_le_pow_right (by decide) z))] at hi
      cases hi
    have h8 := congrArg (fun z => BitVec.getLsbD z i) h
    simp only [BitVec.getLsbD_and, BitVec.getLsbD_xor, BitVec.getLsbD_ofNat, BitVec.getLsbD_allOnes, hi, decide_eq_true (show i < 32 by omega)] at h8
    revert h8
    cases S.testBit i <;> simp
  · intro h
    apply BitVec.eq_of_getLsbD_eq
    intro i hi
    simp only [BitVec.getLsbD_and, BitVec.getLsbD_xor, BitVec.getLsbD_ofNat, BitVec.getLsbD_allOnes, decide_eq_true hi]
    have := h i
    revert this
    cases T.testBit i <;> cases S.testBit i <;> simp
theorem grp_inj {κ : Nat → Nat} {w N i j : Nat} (hi : i < (grp κ w N).length) (hj : j < (grp κ w N).length) (h : (grp κ w N).getD i 0 = (grp κ w N).getD j 0) : i = j := by
  obtain ⟨T, h1, h2, h3, h4⟩ := grp_get κ w N i hi
  obtain ⟨U, k1, k2, k3, k4⟩ := grp_get κ w N j hj
  rw [h4, k4] at h
  rw [h] at h3
  omega
theorem gD_grp {κ : Nat → Nat} {w N i : Nat} (hi : i < (grp κ w N).length) : (grp κ w N).getD i 0 < N ∧ κ ((grp κ w N).getD i 0) = w := (grp_mem κ w N _).mp (gD_mem hi)
theorem holdsReached_ok {κ : Nat → Nat} {N : Nat} {whole : Int32} {ends order notes : Nat → Int32} (hG : GS κ N whole ends order) (hN : N ≤ 2048) {S w : Nat} (hw : w < 2 ^ 30) {R : Nat → Prop} (hR : ∀ T, T ∈ grp κ w N → tf (notes T) (R T)) : ∃ z, f_X6_holdsReached whole ends order notes (nI S) (nI w) = some z ∧ tf z (∃ T, T ∈ grp κ w N ∧ sub T S ∧ R T) := by
  obtain ⟨a, e1, e2, h1, h2⟩ := hG w hw
  unfold f_X6_holdsReached L_X6_holdsReached_13
  rw [e2, Option.bind_some, e1, Option.bind_some]
  refine upQ0 _ (fun o => ∃ z, o = some z ∧ tf z (∃ T, T ∈ grp κ w N ∧ sub T S ∧ R T)) (a + (grp κ w N).length) (fun j => a ≤ j ∧ ∀ i, i < j - a → ¬ (sub ((grp κ w N).getD i 0) S ∧ R ((grp κ w N).getD i 0))) (by omega) ?_ ?_ (j := a) (by omega) ⟨Nat.le_refl _, fun i hi => absurd hi (by omega)⟩
  · rintro j hj ⟨hj0, hI⟩
    have ho := h2 (j - a) (by omega)
    rw [show a + (j - a) = j by omega] at ho
    have hm := gD_grp (κ := κ) (w := w) (N := N) (i := j - a) (by omega)
    have hmem := gD_mem (l := grp κ w N) (i := j - a) (by omega)
    have ij : inb (nI j) 2048 = true := inb_nI (by omega) (by decide)
    have ii : inb (nI ((grp κ w N).getD (j - a) 0)) 2048 = true := inb_nI (by omega) (by decide)
    have goon : ¬ (sub ((grp κ w N).getD (j - a) 0) S ∧ R ((grp κ w N).getD (j - a) 0)) → a ≤ j + 1 ∧ ∀ i, i < j + 1 - a → ¬ (sub ((grp κ w N).getD i 0) S ∧ R ((grp κ w N).getD i 0)) := fun hn => ⟨by omega, fun i hi => by
      by_cases c : i = j - a
      · rw [c]; exact hn
      · exact hI i (by omega)⟩
    by_cases hs : sub ((grp κ w N).getD (j - a) 0) S
    · rcases hR _ hmem with ⟨n1, n2⟩ | ⟨n1, n2⟩
      · refine Or.inl (fun rec => ⟨1, ?_, Or.inl ⟨rfl, _, hmem, hs, n2⟩⟩)
        show LB_X6_holdsReached_13 _ _ _ _ _ rec (nI j) = _
        unfold LB_X6_holdsReached_13
        rw [if_neg (nI_ge hj (by omega)), ob_t ij, nI_clamp (by omega), ho, if_pos ((subC (by omega)).mpr hs), ob_t ij, ob_t ii, nI_clamp (by omega), n1, if_pos rfl]
      · refine Or.inr ⟨goon (fun z => n2 z.2), fun rec => ?_⟩
        show LB_X6_holdsReached_13 _ _ _ _ _ rec (nI j) = _
        unfold LB_X6_holdsReached_13 B_X6_holdsReached_51
        rw [if_neg (nI_ge hj (by omega)), ob_t ij, nI_clamp (by omega), ho, if_pos ((subC (by omega)).mpr hs), ob_t ij, ob_t ii, nI_clamp (by omega), n1, if_neg (by decide), nI_1]
    · refine Or.inr ⟨goon (fun z => hs z.1), fun rec => ?_⟩
      show LB_X6_holdsReached_13 _ _ _ _ _ rec (nI j) = _
      unfold LB_X6_holdsReached_13 B_X6_holdsReached_51
      rw [if_neg (nI_ge hj (by omega)), ob_t ij, nI_clamp (by omega), ho, if_neg (fun z => hs ((subC (by omega)).mp z)), nI_1]
  · rintro ⟨-, hI⟩ rec
    refine ⟨0, ?_, Or.inr ⟨rfl, ?_⟩⟩
    · show LB_X6_holdsReached_13 _ _ _ _ _ rec (nI (a + (grp κ w N).length)) = _
      unfold LB_X6_holdsReached_13
      rw [if_pos (nI_le (Nat.le_refl _) (by omega))]
      rfl
    · rintro ⟨T, t1, t2, t3⟩
      obtain ⟨i, i1, i2⟩ := mem_gD t1
      exact hI i (by omega) ⟨by rw [i2]; exact t2, by rw [i2]; exact t3⟩
theorem zb_tf {v : Int32} {p : Prop} (h : tf v p) : zb v = true := by
  rcases h with ⟨rfl, -⟩ | ⟨rfl, -⟩
  · exact zb1
  · exact zb0
theorem grow_ok {κ : Nat → Nat} {N : Nat} {whole : Int32} {ends order notes : Nat → Int32} (hG : GS κ N whole ends order) (hN : N ≤ 2048) {o d : Nat} (ho : o < 2 ^ 30) (hd : d < 2 ^ 30) (hne : o ≠ d) {R : Nat → Prop} (hR : ∀ T, T ∈ grp κ o N → tf (notes T) (R T)) : ∃ z notes', f_X6_grow whole ends order notes (nI o) (nI d) = some (z, notes') ∧ (∀ S, S ∈ grp κ d N → tf (notes' S) (∃ T, T ∈ grp κ o N ∧ sub T S ∧ R T)) ∧ tf z (∃ S, S ∈ grp κ d N ∧ ∃ T, T ∈ grp κ o N ∧ sub T S ∧ R T) := by
  obtain ⟨a, e1, e2, h1, h2⟩ := hG d hd
  unfold f_X6_grow L_X6_grow_9
  rw [e1, Option.bind_some]
  generalize hl : (grp κ d N).length = len at *
  obtain ⟨x', n', hF, q⟩ := upK2 (fun rec t => LB_X6_grow_9 whole ends order (nI o) (nI d) (fun t => B_X6_grow_77 t.2.2 t.1) rec t.1 t.2.1 t.2.2) (fun t => B_X6_grow_77 t.2.2 t.1) (a + len) (fun j x n => a ≤ j ∧ (∀ i, i < j - a → tf (n ((grp κ d N).getD i 0)) (∃ T, T ∈ grp κ o N ∧ sub T ((grp κ d N).getD i 0) ∧ R T)) ∧ (∀ T, T ∈ grp κ o N → tf (n T) (R T)) ∧ tf x (∃ i, i < j - a ∧ ∃ T, T ∈ grp κ o N ∧ sub T ((grp κ d N).getD i 0) ∧ R T)) (by omega) (fun j x n hj hI rec => by
      obtain ⟨hj0, hA, hB, hx⟩ := hI
      obtain ⟨i, rfl⟩ : ∃ i, j = a + i := ⟨j - a, by omega⟩
      rw [show a + i - a = i by omega] at hA hx
      have hil : i < (grp κ d N).length := by omega
      have hoi := h2 i (by omega)
      have hm := gD_grp (κ := κ) (w := d) (N := N) hil
      generalize hS : (grp κ d N).getD i 0 = S at *
      obtain ⟨z, ez, hz⟩ := holdsReached_ok (S := S) hG hN ho hB
      have iS : inb (nI S) 2048 = true := inb_nI (by omega) (by decide)
      have hA' : ∀ k, k < i + 1 → tf (upd n S z ((grp κ d N).getD k 0)) (∃ T, T ∈ grp κ o N ∧ sub T ((grp κ d N).getD k 0) ∧ R T) := fun k hk => by
        by_cases c : k = i
        · rw [c, hS, pk_us]; exact hz
        · rw [pk_un (fun z => c (grp_inj (by omega) hil (z.trans hS.symm)))]; exact hA k (by omega)
      have hB' : ∀ T, T ∈ grp κ o N → tf (upd n S z T) (R T) := fun T hT => by
        rw [pk_un (fun c => ?_)]
        · exact hB T hT
        · have := (grp_mem κ o N T).mp hT
          rw [c, hm.2] at this
          exact hne this.2.symm
      have hstep : LB_X6_grow_9 whole ends order (nI o) (nI d) (fun t => B_X6_grow_77 t.2.2 t.1) rec x (nI (a + i)) n = B_X6_grow_49 (fun t => B_X6_grow_77 t.2.2 t.1) rec n x (nI (a + i)) (nI S) z (nI S) := by
        unfold LB_X6_grow_9
        rw [e2, Option.bind_some, if_neg (nI_ge (by omega) (by omega)), ob_t (inb_nI (by omega) (by decide)), nI_clamp (by omega), hoi, ez, Option.bind_some]
        rcases hz with ⟨rfl, -⟩ | ⟨rfl, -⟩
        · rw [if_neg n10]
        · rw [if_pos rfl]
      have tail : ∀ y : Int32, tf y (∃ k, k < i + 1 ∧ ∃ T, T ∈ grp κ o N ∧ sub T ((grp κ d N).getD k 0) ∧ R T) → B_X6_grow_49 (fun t => B_X6_grow_77 t.2.2 t.1) rec n x (nI (a + i)) (nI S) z (nI S) = rec (y, nI (a + i + 1), upd n S z) → ∃ x' s', (a ≤ a + i + 1 ∧ (∀ k, k < a + i + 1 - a → tf (s' ((grp κ d N).getD k 0)) (∃ T, T ∈ grp κ o N ∧ sub T ((grp κ d N).getD k 0) ∧ R T)) ∧ (∀ T, T ∈ grp κ o N → tf (s' T) (R T)) ∧ tf x' (∃ k, k < a + i + 1 - a ∧ ∃ T, T ∈ grp κ o N ∧ sub T ((grp κ d N).getD k 0) ∧ R T)) ∧ LB_X6_grow_9 whole ends order (nI o) (nI d) (fun t => B_X6_grow_77 t.2.2 t.1) rec x (nI (a + i)) n = rec (x', nI (a + i + 1), s') := fun y hy ey => by
        rw [show a + i + 1 - a = i + 1 by omega]
        exact ⟨y, upd n S z, ⟨by omega, hA', hB', hy⟩, hstep.trans ey⟩
      show ∃ x' s', _ ∧ LB_X6_grow_9 whole ends order (nI o) (nI d) (fun t => B_X6_grow_77 t.2.2 t.1) rec x (nI (a + i)) n = _
      unfold B_X6_grow_49 B_X6_grow_65 B_X6_grow_70 at tail
      rw [ob_t iS, ob_t iS, nI_clamp (by omega), pk_us, nI_1] at tail
      rcases hx with ⟨rfl, k, k1, k2⟩ | ⟨rfl, hx2⟩
      · rw [if_neg n10] at tail
        exact tail 1 (Or.inl ⟨rfl, k, by omega, k2⟩) rfl
      · rw [if_pos rfl] at tail
        rcases hz with ⟨rfl, hz2⟩ | ⟨rfl, hz2⟩
        · rw [if_pos rfl] at tail
          exact tail 1 (Or.inl ⟨rfl, i, by omega, by rw [hS]; exact hz2⟩) rfl
        · rw [if_neg (by decide)] at tail
          refine tail 0 (Or.inr ⟨rfl, ?_⟩) rfl
          rintro ⟨k, k1, k2⟩
          by_cases c : k = i
          · rw [c, hS] at k2; exact hz2 k2
          · exact hx2 ⟨k, by omega, k2⟩) (fun x n _ rec => by
      show LB_X6_grow_9 _ _ _ _ _ _ rec x (nI (a + len)) n = _
      unfold LB_X6_grow_9
      rw [e2, Option.bind_some, if_pos (nI_le (Nat.le_refl _) (by omega))]) (j := a) (x := (0 : Int32)) (s := notes) (by omega) ⟨Nat.le_refl _, fun i hi => absurd hi (by omega), hR, Or.inr ⟨rfl, fun ⟨i, hi, _⟩ => absurd hi (by omega)⟩⟩
  obtain ⟨-, f1, -, f3⟩ := hF
  rw [show a + len - a = len by omega] at f1 f3
  refine ⟨x', n', ?_, fun S hS => ?_, tf_congr ⟨?_, ?_⟩ f3⟩
  · refine q.trans ?_
    show B_X6_grow_77 n' x' = _
    unfold B_X6_grow_77
    rw [ob_t (zb_tf f3)]
  · obtain ⟨i, i1, i2⟩ := mem_gD hS
    have := f1 i (by omega)
    rw [i2] at this
    exact this
  · rintro ⟨i, i1, i2⟩
    exact ⟨_, gD_mem (by omega), i2⟩
  · rintro ⟨S, s1, s2⟩
    obtain ⟨i, i1, i2⟩ := mem_gD s1
    exact ⟨i, by omega, by rw [i2]; exact s2⟩
/-- sets that may lie there on a day, with nothing given back -/
def Rch (g : Nat → Nat) (L : Nat) (D : Nat → Nat) : Nat → Nat → Prop
  | 0, S => S = 0
  | d + 1, S => S < 2 ^ L ∧ ws g L S = D (d + 1) ∧ ∃ T, sub T S ∧ Rch g L D d T
theorem ws_0 (g : Nat → Nat) : ∀ k, ws g k 0 = 0
  | 0 => rfl
  | k + 1 => by
    show ws g k 0 + (if (0 : Nat).testBit k = true then g k else 0) = 0
    rw [ws_0 g k, Nat.zero_testBit, if_neg Bool.false_ne_true]
theorem Rch_in {g : Nat → Nat} {L : Nat} {D : Nat → Nat} (h0 : D 0 = 0) : ∀ d S, Rch g L D d S → S < 2 ^ L ∧ ws g L S = D d
  | 0, S, h => by
    have h : S = 0 := h
    rw [h]; exact ⟨Nat.two_pow_pos L, by rw [ws_0, h0]⟩
  | d + 1, S, h => ⟨h.1, h.2.1⟩
theorem ws_sub {g : Nat → Nat} {T S : Nat} (h : sub T S) : ∀ k, (∀ i, i < k → 1 ≤ g i) → ws g k T ≤ ws g k S ∧ (ws g k T = ws g k S → ∀ i, i < k → T.testBit i = S.testBit i)
  | 0, _ => ⟨Nat.le_refl _, fun _ i hi => absurd hi (by omega)⟩
  | k + 1, hg => by
    obtain ⟨h1, h2⟩ := ws_sub h k (fun i hi => hg i (by omega))
    have hk := h k
    have gk := hg k (by omega)
    show ws g k T + (if T.testBit k = true then g k else 0) ≤ ws g k S + (if S.testBit k = true then g k else 0) ∧ (ws g k T + (if T.testBit k = true then g k else 0) = ws g k S + (if S.testBit k = true then g k else 0) → _)
    by_cases t : T.testBit k = true
    · rw [if_pos t, if_pos (hk t)]
      refine ⟨by omega, fun e i hi => ?_⟩
      by_cases c : i = k
      · rw [c, t, hk t]
      · exact h2 (by omega) i (by omega)
    · rw [if_neg t]
      by_cases s : S.testBit k = true
      · rw [if_pos s]
        exact ⟨by omega, fun e => by omega⟩
      · rw [if_neg s]
        refine ⟨by omega, fun e i hi => ?_⟩
        by_cases c : i = k
        · rw [c]; simp only [Bool.not_eq_true] at t s; rw [t, s]
        · exact h2 (by omega) i (by omega)
theorem ext_lt {T S L : Nat} (hT : T < 2 ^ L) (hS : S < 2 ^ L) (h : ∀ i, i < L → T.testBit i = S.testBit i) : T = S := by
  apply Nat.eq_of_testBit_eq
  intro i
  by_cases c : i < L
  · exact h i c
  · have hp : 2 ^ L ≤ 2 ^ i := Nat.pow_le_pow_right (by decide) (by omega)
    rw [Nat.testBit_lt_two_pow (by omega), Nat.testBit_lt_two_pow (by omega)]
theorem sub_eq {g : Nat → Nat} {L T S : Nat} (hg : ∀ i, i < L → 1 ≤ g i) (h : sub T S) (hT : T < 2 ^ L) (hS : S < 2 ^ L) (e : ws g L T = ws g L S) : T = S := ext_lt hT hS ((ws_sub h L hg).2 e)
/-- how many days, by what may be on each -/
def AnsD (E : Nat → Prop) (a : Nat) : Prop := a ≤ 60 ∧ (∀ d, d ≤ a → E d) ∧ (a < 60 → ¬ E (a + 1))
theorem AnsD_uniq {E : Nat → Prop} {a b : Nat} (h1 : AnsD E a) (h2 : AnsD E b) : a = b := by
  rcases Nat.lt_trichotomy a b with c | c | c
  · have b60 := h2.1
    exact absurd (h2.2.1 (a + 1) (by omega)) (h1.2.2 (by omega))
  · exact c
  · have a60 := h1.1
    exact absurd (h1.2.1 (b + 1) (by omega)) (h2.2.2 (by omega))
theorem daysGrowing_ok {g : Nat → Nat} {L : Nat} {D : Nat → Nat} (hL : L ≤ 11) (hg : ∀ i, i < L → 1 ≤ g i) (h0 : D 0 = 0) (hD : ∀ d, d ≤ 60 → D d < 2 ^ 30) {whole : Int32} {ends order : Nat → Int32} (hG : GS (ws g L) (2 ^ L) whole ends order) {dues : Nat → Int32} (hd : ∀ d, d ≤ 60 → dues d = nI (D d)) (notes : Nat → Int32) : ∃ a n', f_X6_daysGrowing 61 whole notes ends order dues = some (nI a, n') ∧ AnsD (fun d => ∃ S, Rch g L D d S) a := by
  have hN := p11 hL
  unfold f_X6_daysGrowing L_X6_daysGrowing_9
  rw [ob_t (by decide)]
  refine upQ _ (fun o => ∃ a n', o = some (nI a, n') ∧ AnsD (fun d => ∃ S, Rch g L D d S) a) 61 (fun j n => ∃ d, j = d + 1 ∧ (∀ S, S ∈ grp (ws g L) (D d) (2 ^ L) → tf (n S) (Rch g L D d S)) ∧ ∀ d', d' ≤ d → ∃ S, Rch g L D d' S) (by decide) ?_ ?_ (j := 1) (s := upd notes (0 : Int32).toNatClampNeg (1 : Int32)) (by decide) ⟨0, rfl, fun S hS => ?_, fun d' hd' => ?_⟩
  · rintro j n hj ⟨d, rfl, hI, hE⟩
    have e1 : nI (d + 1) - (1 : Int32) = nI d := pk_sub (a := d + 1) (b := 1) (by omega)
    have hdd := hD d (by omega)
    have hdd1 := hD (d + 1) (by omega)
    have ib : inb (nI (d + 1)) 61 = true := inb_nI (by omega) (by decide)
    have ia : inb (nI d) 61 = true := inb_nI (by omega) (by decide)
    by_cases c : D (d + 1) = D d
    · refine Or.inr ⟨n, ⟨d + 1, rfl, fun S hS => ?_, fun d' hd' => ?_⟩, fun rec => ?_⟩
      · rw [c] at hS
        have hm := (grp_mem _ _ _ _).mp hS
        refine tf_congr ⟨fun r => ⟨hm.1, by rw [c]; exact hm.2, S, fun i h => h, r⟩, ?_⟩ (hI S hS)
        rintro ⟨-, -, T, t1, t2⟩
        have ht := Rch_in h0 d T t2
        rw [← sub_eq hg t1 ht.1 hm.1 (by rw [ht.2, hm.2])]
        exact t2
      · by_cases e : d' = d + 1
        · obtain ⟨S, hS⟩ := hE d (Nat.le_refl _)
          have hm := Rch_in h0 d S hS
          rw [e]
          exact ⟨S, hm.1, by rw [c]; exact hm.2, S, fun i h => h, hS⟩
        · exact hE d' (by omega)
      · show LB_X6_daysGrowing_9 _ _ _ _ _ _ rec (nI (d + 1)) n = _
        unfold LB_X6_daysGrowing_9 B_X6_daysGrowing_45
        rw [if_neg (show ¬ (60 : Int32) < nI (d + 1) from nI_nlt (a := 60) (by omega) (by decide)), e1, ob_t ib, ob_t ia, nI_clamp (by omega), nI_clamp (by omega), hd _ (by omega), hd _ (by omega), c, if_pos rfl, nI_1]
    · obtain ⟨z, n', ez, hz1, hz2⟩ := grow_ok (notes := n) hG hN hdd hdd1 (fun z => c z.symm) hI
      have hcode : ∀ rec, LB_X6_daysGrowing_9 61 whole ends order dues (fun t => B_X6_daysGrowing_51 t.2) rec (nI (d + 1)) n = if z = 0 then some (nI d, n') else rec (nI (d + 1 + 1), n') := fun rec => by
        unfold LB_X6_daysGrowing_9 B_X6_daysGrowing_45
        rw [if_neg (show ¬ (60 : Int32) < nI (d + 1) from nI_nlt (a := 60) (by omega) (by decide)), e1, ob_t ib, ob_t ia, nI_clamp (by omega), nI_clamp (by omega), hd _ (by omega), hd _ (by omega), if_neg (fun q => c ((nI_eq (by omega) (by omega)).mp q)), ob_t ia, ob_t ib, ez, Option.bind_some, nI_1]
      have hiff : ∀ S, S ∈ grp (ws g L) (D (d + 1)) (2 ^ L) → ((∃ T, T ∈ grp (ws g L) (D d) (2 ^ L) ∧ sub T S ∧ Rch g L D d T) ↔ Rch g L D (d + 1) S) := fun S hS => by
        have hm := (grp_mem _ _ _ _).mp hS
        constructor
        · rintro ⟨T, t1, t2, t3⟩; exact ⟨hm.1, hm.2, T, t2, t3⟩
        · rintro ⟨-, -, T, t2, t3⟩; exact ⟨T, (grp_mem _ _ _ _).mpr (Rch_in h0 d T t3), t2, t3⟩
      rcases hz2 with ⟨rfl, S, s1, s2⟩ | ⟨rfl, hno⟩
      · refine Or.inr ⟨n', ⟨d + 1, rfl, fun S hS => tf_congr (hiff S hS) (hz1 S hS), fun d' hd' => ?_⟩, fun rec => ?_⟩
        · by_cases e : d' = d + 1
          · rw [e]; exact ⟨S, (hiff S s1).mp s2⟩
          · exact hE d' (by omega)
        · exact (hcode rec).trans (if_neg n10)
      · refine Or.inl (fun rec => ⟨d, n', (hcode rec).trans (if_pos rfl), by omega, hE, fun _ => ?_⟩)
        rintro ⟨S, hS⟩
        have hm := (grp_mem _ _ _ _).mpr (Rch_in h0 (d + 1) S hS)
        exact hno ⟨S, hm, (hiff S hm).mpr hS⟩
  · rintro n ⟨d, hd61, hI, hE⟩ rec
    refine ⟨60, n, ?_, Nat.le_refl _, fun d' hd' => hE d' (by omega), fun z => absurd z (by omega)⟩
    show LB_X6_daysGrowing_9 _ _ _ _ _ _ rec (nI 61) n = _
    unfold LB_X6_daysGrowing_9
    rw [if_pos (by decide)]
    rfl
  · have hm := (grp_mem _ _ _ _).mp hS
    have : S = 0 := by
      refine (sub_eq hg (T := 0) (fun i h => by rw [Nat.zero_testBit] at h; cases h) (Nat.two_pow_pos L) hm.1 ?_).symm
      rw [ws_0, hm.2, h0]
    rw [this]
    exact Or.inl ⟨rfl, rfl⟩
  · rw [show d' = 0 by omega]; exact ⟨0, rfl⟩
