/-! pieces: split and lay -/
def PR : List (Nat × Nat × Nat) → (Nat → Int32) → (Nat → Int32) → (Nat → Int32) → Prop
  | [], _, _, _ => True
  | q :: t, f, s, v => (f t.length = nI q.1 ∧ s t.length = nI q.2.1 ∧ v t.length = nI q.2.2) ∧ PR t f s v
theorem PR_congr : ∀ {l : List (Nat × Nat × Nat)} {f s v f' s' v' : Nat → Int32}, (∀ i, i < l.length → f' i = f i ∧ s' i = s i ∧ v' i = v i) → PR l f s v → PR l f' s' v'
  | [], _, _, _, _, _, _, _, _ => trivial
  | q :: t, f, s, v, f', s', v', h, ⟨⟨h1, h2, h3⟩, h4⟩ => by
    have ht := h t.length (by simp)
    exact ⟨⟨ht.1.trans h1, ht.2.1.trans h2, ht.2.2.trans h3⟩, PR_congr (fun i hi => h i (by simp; omega)) h4⟩
theorem PR_push {l : List (Nat × Nat × Nat)} {f s v : Nat → Int32} (h : PR l f s v) (a b c : Nat) : PR ((a, b, c) :: l) (upd f l.length (nI a)) (upd s l.length (nI b)) (upd v l.length (nI c)) :=
  ⟨⟨pk_us, pk_us, pk_us⟩, PR_congr (fun i hi => ⟨pk_un (by omega), pk_un (by omega), pk_un (by omega)⟩) h⟩
def PA (P : List (Nat × Nat × Nat)) (f s v : Nat → Int32) : Prop := ∀ i, i < P.length → f i = nI (P.getD i (0, 0, 0)).1 ∧ s i = nI (P.getD i (0, 0, 0)).2.1 ∧ v i = nI (P.getD i (0, 0, 0)).2.2
theorem gDa {α : Type} {l r : List α} {d : α} {i : Nat} (h : i < l.length) : (l ++ r).getD i d = l.getD i d := by
  rw [List.getD_eq_getElem?_getD, List.getD_eq_getElem?_getD, List.getElem?_append_left h]
theorem gDb {α : Type} {l r : List α} {d : α} {i : Nat} (h : l.length ≤ i) : (l ++ r).getD i d = r.getD (i - l.length) d := by
  rw [List.getD_eq_getElem?_getD, List.getD_eq_getElem?_getD, List.getElem?_append_right h]
theorem PA_of : ∀ {l : List (Nat × Nat × Nat)} {f s v : Nat → Int32}, PR l f s v → PA l.reverse f s v
  | [], _, _, _, _ => fun i hi => absurd hi (by simp)
  | q :: t, f, s, v, ⟨h1, h2⟩ => by
    have ih := PA_of h2
    intro i hi
    rw [List.length_reverse, List.length_cons] at hi
    rw [List.reverse_cons]
    by_cases e : i < t.length
    · rw [gDa (by rw [List.length_reverse]; exact e)]
      exact ih i (by rw [List.length_reverse]; exact e)
    · have e2 : i = t.length := by omega
      rw [gDb (by rw [List.length_reverse]; omega), List.length_reverse, e2, Nat.sub_self]
      exact h1
theorem pre_mono {w : Nat → Nat} {a : Nat} : ∀ (d : Nat), pre w a ≤ pre w (a + d)
  | 0 => Nat.le_refl _
  | d + 1 => Nat.le_trans (pre_mono d) (Nat.le_add_right _ _)
theorem rawR_succ {kd : Nat} {cs : List Nat} {w : Nat → Nat} (k : Nat) : rawR kd cs w (k + 1) = if isStart kd cs k = true then (k, 1, lossN kd cs w k) :: rawR kd cs w k else match rawR kd cs w k with
    | [] => []
    | q :: t => (q.1, q.2.1 + 1, q.2.2 + lossN kd cs w k) :: t := rfl
theorem rawR_add {kd : Nat} {cs : List Nat} {w : Nat → Nat} {a : Nat} (hs : isStart kd cs a = true) : ∀ (d : Nat), (∀ k, a < k → k < a + 1 + d → isStart kd cs k = false) → (∀ k, a ≤ k → k < a + 1 + d → lossN kd cs w k = w k) → rawR kd cs w (a + 1 + d) = (a, 1 + d, pre w (a + 1 + d) - pre w a) :: rawR kd cs w a
  | 0, _, hl => by
    show (if isStart kd cs a = true then (a, 1, lossN kd cs w a) :: rawR kd cs w a else _) = _
    rw [if_pos hs, hl a (Nat.le_refl _) (by omega)]
    have : pre w (a + 1 + 0) - pre w a = w a := by
      show pre w a + w a - pre w a = w a
      omega
    rw [this]
  | d + 1, hn, hl => by
    have ih := rawR_add hs d (fun k h1 h2 => hn k h1 (by omega)) (fun k h1 h2 => hl k h1 (by omega))
    rw [show a + 1 + (d + 1) = (a + 1 + d) + 1 from rfl, rawR_succ]
    rw [if_neg (by rw [hn (a + 1 + d) (by omega) (by omega)]; exact Bool.false_ne_true), ih]
    have := pre_mono (w := w) (a := a) (1 + d)
    rw [← Nat.add_assoc] at this
    show (a, 1 + d + 1, pre w (a + 1 + d) - pre w a + lossN kd cs w (a + 1 + d)) :: _ = (a, 1 + (d + 1), pre w (a + 1 + d) + w (a + 1 + d) - pre w a) :: _
    rw [hl (a + 1 + d) (by omega) (by omega), show pre w (a + 1 + d) + w (a + 1 + d) - pre w a = pre w (a + 1 + d) - pre w a + w (a + 1 + d) by omega, show 1 + d + 1 = 1 + (d + 1) by omega]
theorem rawR_le {kd : Nat} {cs : List Nat} {w : Nat → Nat} : ∀ k, (rawR kd cs w k).length ≤ k
  | 0 => Nat.le_refl _
  | k + 1 => by
    have ih := rawR_le (kd := kd) (cs := cs) (w := w) k
    have : rawR kd cs w (k + 1) = if isStart kd cs k = true then (k, 1, lossN kd cs w k) :: rawR kd cs w k else match rawR kd cs w k with
    | [] => []
    | q :: t => (q.1, q.2.1 + 1, q.2.2 + lossN kd cs w k) :: t := rfl
    rw [this]
    split
    · simp; omega
    · split
      · simp
      · rename_i q t e
        rw [e] at ih
        simp at ih ⊢; omega
theorem isStart0 {kd : Nat} {cs : List Nat} : isStart kd cs 0 = true := by
  unfold isStart; simp
theorem isStart_iff {kd : Nat} {cs : List Nat} {k : Nat} : isStart kd cs k = true ↔ ((kd < 2 ∧ k ∈ cs) ∨ k = 0 ∨ k - 1 ∈ cs) := by
  unfold isStart
  simp
theorem rawR_ne {kd : Nat} {cs : List Nat} {w : Nat → Nat} : ∀ k, 1 ≤ (rawR kd cs w (k + 1)).length
  | 0 => by
    show 1 ≤ (if isStart kd cs 0 = true then (0, 1, lossN kd cs w 0) :: rawR kd cs w 0 else _).length
    rw [if_pos isStart0]; simp
  | k + 1 => by
    have ih := rawR_ne (kd := kd) (cs := cs) (w := w) k
    have : rawR kd cs w (k + 1 + 1) = if isStart kd cs (k + 1) = true then (k + 1, 1, lossN kd cs w (k + 1)) :: rawR kd cs w (k + 1) else match rawR kd cs w (k + 1) with
    | [] => []
    | q :: t => (q.1, q.2.1 + 1, q.2.2 + lossN kd cs w (k + 1)) :: t := rfl
    rw [this]
    split
    · simp
    · split
      · rename_i e; rw [e] at ih; simp at ih
      · simp
/-- the class's adding of a piece -/
theorem add_ok {l : List (Nat × Nat × Nat)} {f s v ahead : Nat → Int32} {w : Nat → Nat} {a b n : Nat} (hl : l.length < 11) (hn : n ≤ 24) (hab : a < b) (hb : b ≤ n) (ha : ∀ i, i ≤ n → ahead i = nI (pre w i)) (h : PR l f s v) : ∃ f' s' v', f_X5_add (nI l.length) f s v ahead (nI a) (nI b) = some (nI (l.length + 1), f', s', v') ∧ PR ((a, b - a, pre w b - pre w a) :: l) f' s' v' := by
  refine ⟨_, _, _, ?_, PR_push h a (b - a) (pre w b - pre w a)⟩
  unfold f_X5_add B_X5_add_59
  have hm := pre_mono (w := w) (a := a) (b - a)
  rw [show a + (b - a) = b by omega] at hm
  simp (disch := omega) only [lit, nI_add, pk_mul, nI_subT, nI_m1T, nI_clamp, nI_ltI, nI_leI, nI_eq, inb_T, ob_tt, Option.bind_some, ↓reduceIte, shl1_n, shr_n', and_n, or_n, xor_n, n31, dvd_n, pk_us, pk_un, gt_iff_lt, ge_iff_le, m1lt, m1ge, ha a (by omega), ha b hb]
  rw [if_neg (by omega)]
theorem loses_ok {kd : Nat} (hk : kd ≤ 3) : f_X1_losesLinks (nI kd) = some (if kd < 2 then 1 else 0) := by
  unfold f_X1_losesLinks B_X1_losesLinks_15 B_X1_losesLinks_20
  rw [ob_t zb1, ob_t zb0]
  simp (disch := omega) only [lit, nI_add, pk_mul, nI_subT, nI_m1T, nI_clamp, nI_ltI, nI_leI, nI_eq, inb_T, ob_tt, Option.bind_some, ↓reduceIte, shl1_n, shr_n', and_n, or_n, xor_n, n31, dvd_n, pk_us, pk_un, gt_iff_lt, ge_iff_le, m1lt, m1ge]
  by_cases h : kd < 2
  · by_cases h0 : kd = 0
    · rw [if_pos h0, if_pos h]
    · rw [if_neg h0, if_pos (show kd = 1 by omega), if_pos h]
  · rw [if_neg (by omega), if_neg (by omega), if_neg h]
/-- where the next piece begins -/
def frm (cs : List Nat) (i : Nat) : Nat := if i = 0 then 0 else cs.getD (i - 1) 0 + 1
theorem frm_start {kd : Nat} {cs : List Nat} {i : Nat} (hi : i ≤ cs.length) : isStart kd cs (frm cs i) = true := by
  rw [isStart_iff]
  unfold frm
  by_cases h : i = 0
  · rw [if_pos h]; exact Or.inr (Or.inl rfl)
  · rw [if_neg h]; exact Or.inr (Or.inr (by rw [Nat.add_sub_cancel]; exact gD_mem (by omega)))
theorem frm_le {cs : List Nat} (hs : cs.Pairwise (· < ·)) {i : Nat} (hi : i < cs.length) : frm cs i ≤ cs.getD i 0 := by
  unfold frm
  by_cases h : i = 0
  · rw [if_pos h]; omega
  · rw [if_neg h]
    exact srt_iff.mp hs (i - 1) i (by omega) hi
theorem frm_out {cs : List Nat} (hs : cs.Pairwise (· < ·)) {i k : Nat} (hi : i ≤ cs.length) (h1 : frm cs i ≤ k) (h2 : ∀ _ : i < cs.length, k < cs.getD i 0) : k ∉ cs := by
  intro hk
  obtain ⟨j, hj, rfl⟩ := mem_gD hk
  have hsi := srt_iff.mp hs
  by_cases hji : j < i
  · unfold frm at h1
    rw [if_neg (by omega)] at h1
    by_cases e : j = i - 1
    · rw [e] at h1; omega
    · have := hsi j (i - 1) (by omega) (by omega); omega
  · have := h2 (by omega)
    by_cases e : j = i
    · rw [e] at this; omega
    · have := hsi i j (by omega) hj; omega
/-- the pieces before the i-th cut, and between -/
theorem rawR_gap {kd : Nat} {cs : List Nat} {w : Nat → Nat} (hs : cs.Pairwise (· < ·)) {i b : Nat} (hi : i ≤ cs.length) (h1 : frm cs i < b) (h2 : ∀ _ : i < cs.length, b ≤ cs.getD i 0) : rawR kd cs w b = (frm cs i, b - frm cs i, pre w b - pre w (frm cs i)) :: rawR kd cs w (frm cs i) := by
  obtain ⟨d, rfl⟩ : ∃ d, b = frm cs i + 1 + d := ⟨b - frm cs i - 1, by omega⟩
  have out : ∀ k, frm cs i ≤ k → k < frm cs i + 1 + d → k ∉ cs := fun k a1 a2 => frm_out hs hi a1 (fun z => by have := h2 z; omega)
  rw [rawR_add (frm_start hi) d (fun k a1 a2 => ?_) (fun k a1 a2 => ?_), show frm cs i + 1 + d - frm cs i = 1 + d by omega]
  · rw [Bool.eq_false_iff]
    intro z
    rcases isStart_iff.mp z with z | z | z
    · exact out k (by omega) a2 z.2
    · omega
    · exact out (k - 1) (by omega) (by omega) z
  · unfold lossN
    rw [if_neg (fun z => out k a1 a2 z.2.1)]
theorem split_step {kd n : Nat} {w : Nat → Nat} {cs : List Nat} (hk : kd ≤ 3) (hn : n ≤ 24) (h5 : cs.length ≤ 5) (hs : cs.Pairwise (· < ·)) (hb : ∀ c ∈ cs, c < notchN kd n) {ahead worths row : Nat → Int32} (ha : ∀ i, i ≤ n → ahead i = nI (pre w i)) (hw : ∀ i, i < n → worths i = nI (w i)) (hw9 : ∀ i, i < n → w i ≤ 9) (hr : ∀ i, i < cs.length → row i = nI (cs.getD i 0)) {z1 : Nat} (hz : cs.length ≤ z1) (hz1 : z1 < 100) {i : Nat} (hi : i < cs.length) {f s v : Nat → Int32} (hl : (rawR kd cs w (frm cs i)).length ≤ 2 * i) (h : PR (rawR kd cs w (frm cs i)) f s v) (kx rec : Int32 × Int32 × Int32 × (Nat → Int32) × (Nat → Int32) × (Nat → Int32) → Option (Int32 × (Nat → Int32) × (Nat → Int32) × (Nat → Int32))) : ∃ f' s' v', LB_X5_split_11 z1 (nI kd) ahead worths row (nI cs.length) kx rec (nI (frm cs i)) (nI i) (nI (rawR kd cs w (frm cs i)).length) f s v = rec (nI (frm cs (i + 1)), nI (i + 1), nI (rawR kd cs w (frm cs (i + 1))).length, f', s', v') ∧ (rawR kd cs w (frm cs (i + 1))).length ≤ 2 * (i + 1) ∧ PR (rawR kd cs w (frm cs (i + 1))) f' s' v' := by
  have hc := hb _ (gD_mem hi)
  have hN := notchN_le (kd := kd) (n := n)
  have hf := frm_le hs hi
  have hfs : frm cs (i + 1) = cs.getD i 0 + 1 := by
    unfold frm
    rw [if_neg (by omega), Nat.add_sub_cancel]
  generalize hce : cs.getD i 0 = c at *
  have hcm : c ∈ cs := hce ▸ gD_mem hi
  have hri : row i = nI c := by rw [hr i hi, hce]
  unfold LB_X5_split_11 B_X5_split_71
  rw [if_neg (nI_ge hi (by omega)), ob_t (inb_nI (by omega) (by omega)), loses_ok hk, Option.bind_some, nI_clamp (by omega), hri, nI_1, nI_1, hfs]
  by_cases h2 : kd < 2
  · rw [if_pos h2, if_neg n10]
    have e1 : rawR kd cs w (c + 1) = (c, 1, pre w (c + 1) - pre w c) :: rawR kd cs w c := by
      have : lossN kd cs w c = pre w (c + 1) - pre w c := by
        unfold lossN
        rw [if_neg (by omega)]
        show _ = pre w c + w c - pre w c
        omega
      rw [← this]
      show (if isStart kd cs c = true then _ else _) = _
      rw [if_pos (isStart_iff.mpr (Or.inl ⟨h2, hcm⟩))]
    by_cases hlt : frm cs i < c
    · have e0 := rawR_gap (kd := kd) (w := w) hs (Nat.le_of_lt hi) hlt (fun _ => by omega)
      obtain ⟨f1, s1, v1, g1, g2⟩ := add_ok (b := c) (by omega) hn hlt (by omega) ha h
      rw [g1, Option.bind_some, e1, e0]
      obtain ⟨f2, s2, v2, g3, g4⟩ := add_ok (b := c + 1) (by simp; omega) hn (Nat.lt_succ_self c) (by omega) ha g2
      rw [show (nI ((rawR kd cs w (frm cs i)).length + 1)) = nI ((frm cs i, c - frm cs i, pre w c - pre w (frm cs i)) :: rawR kd cs w (frm cs i)).length from rfl, g3, Option.bind_some]
      refine ⟨f2, s2, v2, rfl, by simp; omega, ?_⟩
      rw [show c + 1 - c = 1 by omega] at g4
      exact g4
    · have e0 : frm cs i = c := by omega
      have : f_X5_add (nI (rawR kd cs w (frm cs i)).length) f s v ahead (nI (frm cs i)) (nI c) = some (nI (rawR kd cs w (frm cs i)).length, f, s, v) := by
        unfold f_X5_add B_X5_add_59
        rw [if_pos (nI_le (by omega) (by omega))]
      rw [this, Option.bind_some, e1]
      rw [e0] at h hl ⊢
      obtain ⟨f2, s2, v2, g3, g4⟩ := add_ok (b := c + 1) (by omega) hn (Nat.lt_succ_self c) (by omega) ha h
      rw [g3, Option.bind_some]
      refine ⟨f2, s2, v2, rfl, by simp; omega, ?_⟩
      rw [show c + 1 - c = 1 by omega] at g4
      exact g4
  · rw [if_neg h2, if_pos rfl]
    have hcn : c + 1 < n := by unfold notchN at hc; rw [if_neg h2] at hc; omega
    obtain ⟨f1, s1, v1, g1, g2⟩ := add_ok (b := c + 1) (by omega) hn (show frm cs i < c + 1 by omega) (by omega) ha h
    rw [g1, Option.bind_some]
    have hm1 := pre_mono (w := w) (a := frm cs i) (c - frm cs i)
    rw [show frm cs i + (c - frm cs i) = c by omega] at hm1
    have hpc : pre w (c + 1) = pre w c + w c := rfl
    have e1 : rawR kd cs w (c + 1) = (frm cs i, c + 1 - frm cs i, pre w c - pre w (frm cs i) + lossN kd cs w c) :: rawR kd cs w (frm cs i) := by
      by_cases hlt : frm cs i < c
      · have e0 := rawR_gap (kd := kd) (w := w) hs (Nat.le_of_lt hi) hlt (fun _ => by omega)
        have ns : isStart kd cs c = false := by
          rw [Bool.eq_false_iff]
          intro z
          rcases isStart_iff.mp z with z | z | z
          · exact h2 z.1
          · omega
          · exact frm_out hs (Nat.le_of_lt hi) (show frm cs i ≤ c - 1 by omega) (fun _ => by omega) z
        show (if isStart kd cs c = true then _ else _) = _
        rw [if_neg (by rw [ns]; exact Bool.false_ne_true), e0]
        show (frm cs i, c - frm cs i + 1, _) :: _ = _
        rw [show c - frm cs i + 1 = c + 1 - frm cs i by omega]
      · have e0 : frm cs i = c := by omega
        rw [e0, Nat.sub_self, Nat.zero_add, show c + 1 - c = 1 by omega]
        show (if isStart kd cs c = true then _ else _) = _
        rw [if_pos (e0 ▸ frm_start (Nat.le_of_lt hi))]
    rw [e1]
    unfold f_X5_lose B_X5_lose_33
    by_cases h3 : kd = 3
    · rw [if_pos (by rw [h3]; rfl), ob_t (inb_nI (by omega) (by decide)), nI_clamp (by omega), hw c (by omega)]
      by_cases h1 : w c ≤ 1
      · rw [if_pos (show nI (w c) ≤ (1 : Int32) from nI_le h1 (by decide)), Option.bind_some]
        refine ⟨f1, s1, v1, rfl, by simp; omega, ?_⟩
        have : lossN kd cs w c = w c := by unfold lossN; rw [if_neg (by omega)]
        rw [this, show pre w c - pre w (frm cs i) + w c = pre w (c + 1) - pre w (frm cs i) by omega]
        exact g2
      · have h9 := hw9 c (by omega)
        rw [if_neg (show ¬ nI (w c) ≤ (1 : Int32) from nI_ge (a := 1) (by omega) (by omega)), show nI ((rawR kd cs w (frm cs i)).length + 1) - (1 : Int32) = nI (rawR kd cs w (frm cs i)).length from nI_pred _, ob_t (inb_nI (by omega) (by decide)), ob_t (inb_nI (by omega) (by decide)), nI_clamp (by omega), Option.bind_some]
        refine ⟨f1, s1, _, rfl, by simp; omega, ?_⟩
        have : lossN kd cs w c = w c - 1 := by unfold lossN; rw [if_pos ⟨h3, hcm, by omega⟩]
        refine ⟨⟨g2.1.1, g2.1.2.1, ?_⟩, PR_congr (fun j hj => ⟨rfl, rfl, pk_un (by omega)⟩) g2.2⟩
        rw [pk_us]
        show v1 (rawR kd cs w (frm cs i)).length - 1 = nI (pre w c - pre w (frm cs i) + lossN kd cs w c)
        rw [g2.1.2.2, lit, nI_subT (by show 1 ≤ pre w (c + 1) - pre w (frm cs i); omega), this]
        show nI (pre w (c + 1) - pre w (frm cs i) - 1) = nI (pre w c - pre w (frm cs i) + (w c - 1))
        congr 1; omega
    · rw [if_neg (show ¬ nI kd = (3 : Int32) from fun z => h3 ((nI_eq (b := 3) (by omega) (by decide)).mp z)), Option.bind_some]
      refine ⟨f1, s1, v1, rfl, by simp; omega, ?_⟩
      have : lossN kd cs w c = w c := by unfold lossN; rw [if_neg (by omega)]
      rw [this, show pre w c - pre w (frm cs i) + w c = pre w (c + 1) - pre w (frm cs i) by omega]
      exact g2
