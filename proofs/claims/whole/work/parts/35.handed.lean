/-! handed: the words -/
theorem grp_srt (κ : Nat → Nat) (w : Nat) : ∀ n, (grp κ w n).Pairwise (· < ·)
  | 0 => List.Pairwise.nil
  | n + 1 => by
    show (if κ n = w then grp κ w n ++ [n] else grp κ w n).Pairwise (· < ·)
    by_cases h : κ n = w
    · rw [if_pos h]
      refine List.pairwise_append.mpr ⟨grp_srt κ w n, List.pairwise_singleton _ _, fun a ha b hb => ?_⟩
      rw [List.mem_singleton.mp hb]
      exact ((grp_mem κ w n a).mp ha).1
    · rw [if_neg h]; exact grp_srt κ w n
theorem cn_ws (S : Nat) : ∀ k, cn (fun i => if S.testBit i = true then 1 else 0) 1 k = ws (fun _ => 1) k S
  | 0 => rfl
  | k + 1 => by
    rw [cn_succ, cn_ws S k]
    show _ = ws (fun _ => 1) k S + (if S.testBit k = true then 1 else 0)
    by_cases h : S.testBit k = true
    · rw [if_pos h, if_pos rfl]
    · rw [if_neg h, if_neg (by decide)]
theorem ones_gen {S : Nat} (h : S < 2048) : f_X11_ones (nI S) = some (nI (pc S)) := by
  have hm : ∀ k, S.testBit k = decide (k ∈ grp (fun i => if S.testBit i = true then 1 else 0) 1 11) := fun k => by
    by_cases c : S.testBit k = true
    · have hk : k < 11 := by
        refine Nat.lt_of_not_le (fun z => ?_)
        rw [Nat.testBit_lt_two_pow (Nat.lt_of_lt_of_le h (Nat.pow_le_pow_right (n := 2) (i := 11) (by decide) z))] at c
        cases c
      rw [c, decide_eq_true ((grp_mem (fun i => if S.testBit i = true then 1 else 0) 1 11 k).mpr ⟨hk, if_pos c⟩)]
    · rw [decide_eq_false (fun z => by
        have := ((grp_mem _ 1 11 k).mp z).2
        rw [if_neg c] at this
        cases this)]
      simpa using c
  have hs := grp_srt (fun i => if S.testBit i = true then 1 else 0) 1 11
  have e : S = mask (grp (fun i => if S.testBit i = true then 1 else 0) 1 11) := mask_ext (ds := []) hs hm
  have hb : ∀ c ∈ grp (fun i => if S.testBit i = true then 1 else 0) 1 11, c < 31 := fun c hc => by
    have := ((grp_mem _ 1 11 c).mp hc).1
    omega
  have := ones_ok hs hb
  rw [← e] at this
  rw [this]
  congr 2
  exact cn_ws S 11
theorem bc_ok : ∀ S, S < 2048 → f_J6_bitCount_0f7a4 (nI S) = some (nI (pc S)) := by decide +kernel
theorem pc_le (S : Nat) : pc S ≤ 11 := ws_le (fun _ => 1) 11 S
theorem xor_lt {S T : Nat} (hS : S < 2048) (hT : T < 2048) : S ^^^ T < 2048 := Nat.xor_lt_two_pow (n := 11) hS hT
theorem ws_tri (S T U : Nat) : ∀ k, ws (fun _ => 1) k (S ^^^ U) ≤ ws (fun _ => 1) k (S ^^^ T) + ws (fun _ => 1) k (T ^^^ U)
  | 0 => Nat.le_refl _
  | k + 1 => by
    have ih := ws_tri S T U k
    show ws (fun _ => 1) k (S ^^^ U) + (if (S ^^^ U).testBit k = true then 1 else 0) ≤ ws (fun _ => 1) k (S ^^^ T) + (if (S ^^^ T).testBit k = true then 1 else 0) + (ws (fun _ => 1) k (T ^^^ U) + (if (T ^^^ U).testBit k = true then 1 else 0))
    rw [Nat.testBit_xor, Nat.testBit_xor, Nat.testBit_xor]
    cases S.testBit k <;> cases T.testBit k <;> cases U.testBit k <;> simp <;> omega
theorem pc_tri (S T U : Nat) : pc (S ^^^ U) ≤ pc (S ^^^ T) + pc (T ^^^ U) := ws_tri S T U 11
theorem pc_self (S : Nat) : pc (S ^^^ S) = 0 := by
  rw [Nat.xor_self]; exact ws_0 _ 11
/-- the first of the least -/
def BT (f : Nat → Nat) (l : List Nat) (T : Nat) : Prop := T ∈ l ∧ (∀ U, U ∈ l → f T ≤ f U) ∧ ∀ U, U ∈ l → U < T → f T < f U
theorem BT_uniq {f : Nat → Nat} {l : List Nat} {T U : Nat} (h1 : BT f l T) (h2 : BT f l U) : T = U := by
  rcases Nat.lt_trichotomy T U with c | c | c
  · have := h2.2.2 T h1.1 c
    have := h1.2.1 U h2.1
    omega
  · exact c
  · have := h1.2.2 U h2.1 c
    have := h2.2.1 T h1.1
    omega
theorem BT_congr {f f' : Nat → Nat} {l : List Nat} {T : Nat} (h : ∀ U, U ∈ l → f U = f' U) (hb : BT f l T) : BT f' l T := by
  obtain ⟨h1, h2, h3⟩ := hb
  refine ⟨h1, fun U hU => ?_, fun U hU hlt => ?_⟩
  · rw [← h T h1, ← h U hU]; exact h2 U hU
  · rw [← h T h1, ← h U hU]; exact h3 U hU hlt
theorem BT_ex (f : Nat → Nat) {l : List Nat} (h : l ≠ []) : ∃ T, BT f l T := by
  obtain ⟨x, hx⟩ : ∃ x, x ∈ l := by
    cases l with
    | nil => exact absurd rfl h
    | cons a t => exact ⟨a, List.mem_cons_self⟩
  obtain ⟨m, ⟨y, hy, ey⟩, hm⟩ := pk_least (fun m => ∃ x, x ∈ l ∧ f x = m) ⟨f x, x, hx, rfl⟩
  obtain ⟨T, ⟨hT, eT⟩, hT2⟩ := pk_least (fun T => T ∈ l ∧ f T = m) ⟨y, hy, ey⟩
  have hle : ∀ U, U ∈ l → f T ≤ f U := fun U hU => by
    rw [eT]
    exact Nat.le_of_not_lt (fun z => hm (f U) z ⟨U, hU, rfl⟩)
  refine ⟨T, hT, hle, fun U hU hlt => ?_⟩
  have := hle U hU
  by_cases c : f U = m
  · exact absurd ⟨hU, c⟩ (hT2 U hlt)
  · omega
theorem mnF_app (f : Nat → Nat) (x : Nat) : ∀ l a, mnF f (l ++ [x]) a = if f x < mnF f l a then f x else mnF f l a
  | [], a => rfl
  | y :: t, a => mnF_app f x t _
theorem mnF_le (f : Nat → Nat) : ∀ l a, mnF f l a ≤ a ∧ ∀ x, x ∈ l → mnF f l a ≤ f x
  | [], a => ⟨Nat.le_refl _, fun x hx => by cases hx⟩
  | y :: t, a => by
    obtain ⟨h1, h2⟩ := mnF_le f t (if f y < a then f y else a)
    have h3 : mnF f (y :: t) a = mnF f t (if f y < a then f y else a) := rfl
    have h4 : (if f y < a then f y else a) ≤ a ∧ (if f y < a then f y else a) ≤ f y := by split <;> omega
    refine ⟨by omega, fun x hx => ?_⟩
    rcases List.mem_cons.mp hx with rfl | hx
    · omega
    · have := h2 x hx; omega
theorem mnF_in (f : Nat → Nat) : ∀ l a, mnF f l a = a ∨ ∃ x, x ∈ l ∧ mnF f l a = f x
  | [], a => Or.inl rfl
  | y :: t, a => by
    have h3 : mnF f (y :: t) a = mnF f t (if f y < a then f y else a) := rfl
    rcases mnF_in f t (if f y < a then f y else a) with h | ⟨x, hx, h⟩
    · rw [h3, h]
      by_cases c : f y < a
      · rw [if_pos c]; exact Or.inr ⟨y, List.mem_cons_self, rfl⟩
      · rw [if_neg c]; exact Or.inl rfl
    · exact Or.inr ⟨x, List.mem_cons_of_mem _ hx, h3.trans h⟩
theorem mnF_BT {f : Nat → Nat} {l : List Nat} {T a : Nat} (h : BT f l T) (ha : f T < a) : mnF f l a = f T := by
  have h1 := (mnF_le f l a).2 T h.1
  rcases mnF_in f l a with e | ⟨x, hx, e⟩
  · omega
  · have := h.2.1 x hx
    omega
theorem Hk_le {G : Nat → List Nat} {n : Nat} (hG : ∀ d, 1 ≤ d → d ≤ n → G d ≠ []) : ∀ k S, k ≤ n → Hk G n k S ≤ 11 * k
  | 0, _, _ => Nat.le_refl _
  | k + 1, S, hk => by
    show mnF (fun T => pc (S ^^^ T) + Hk G n k T) (G (n - k)) 1000000 ≤ _
    obtain ⟨T, hT⟩ := BT_ex (fun T => pc (S ^^^ T) + Hk G n k T) (hG (n - k) (by omega) (by omega))
    have h1 := (mnF_le (fun T => pc (S ^^^ T) + Hk G n k T) (G (n - k)) 1000000).2 T hT.1
    have h2 := Hk_le hG k T (by omega)
    have h3 := pc_le (S ^^^ T)
    omega
theorem Hk_BT {G : Nat → List Nat} {n : Nat} (hn : n ≤ 60) (hG : ∀ d, 1 ≤ d → d ≤ n → G d ≠ []) {k S T : Nat} (hk : k + 1 ≤ n) (h : BT (fun T => pc (S ^^^ T) + Hk G n k T) (G (n - k)) T) : Hk G n (k + 1) S = pc (S ^^^ T) + Hk G n k T := by
  refine mnF_BT h ?_
  have h2 := Hk_le hG k T (by omega)
  have h3 := pc_le (S ^^^ T)
  show pc (S ^^^ T) + Hk G n k T < 1000000
  omega
theorem Hk_lip {G : Nat → List Nat} {n : Nat} (hn : n ≤ 60) (hG : ∀ d, 1 ≤ d → d ≤ n → G d ≠ []) (S T : Nat) : ∀ k, k ≤ n → Hk G n k S ≤ pc (S ^^^ T) + Hk G n k T
  | 0, _ => Nat.zero_le _
  | k + 1, hk => by
    obtain ⟨U, hU⟩ := BT_ex (fun U => pc (T ^^^ U) + Hk G n k U) (hG (n - k) (by omega) (by omega))
    have e := Hk_BT hn hG hk hU
    have h1 : Hk G n (k + 1) S ≤ pc (S ^^^ U) + Hk G n k U := (mnF_le (fun T => pc (S ^^^ T) + Hk G n k T) (G (n - k)) 1000000).2 U hU.1
    have := pc_tri S T U
    omega
theorem Hk_same {G : Nat → List Nat} {n : Nat} (hn : n ≤ 60) (hG : ∀ d, 1 ≤ d → d ≤ n → G d ≠ []) {k S : Nat} (hk : k + 1 ≤ n) (hS : S ∈ G (n - k)) : Hk G n (k + 1) S = Hk G n k S := by
  obtain ⟨U, hU⟩ := BT_ex (fun U => pc (S ^^^ U) + Hk G n k U) (hG (n - k) (by omega) (by omega))
  have e := Hk_BT hn hG hk hU
  have h1 := Hk_lip hn hG S U k (by omega)
  have h2 : pc (S ^^^ U) + Hk G n k U ≤ pc (S ^^^ S) + Hk G n k S := hU.2.1 S hS
  have h3 := pc_self S
  omega
def Tr (G : Nat → List Nat) (n : Nat) : Nat → Nat → Prop
  | 0, S => S = 0
  | d + 1, S => ∃ T, Tr G n d T ∧ BT (fun U => pc (T ^^^ U) + Hk G n (n - (d + 1)) U) (G (d + 1)) S
theorem Tr_uniq {G : Nat → List Nat} {n : Nat} : ∀ d S T, Tr G n d S → Tr G n d T → S = T
  | 0, S, T, h1, h2 => by
    have h1 : S = 0 := h1
    have h2 : T = 0 := h2
    rw [h1, h2]
  | d + 1, S, T, ⟨S', a1, a2⟩, ⟨T', b1, b2⟩ => by
    have := Tr_uniq d S' T' a1 b1
    subst this
    exact BT_uniq a2 b2
/-! handed: the class -/
theorem handedTo_ok {notes : Nat → Int32} {h : Nat → Nat} {S T : Nat} (hS : S < 2048) (hT : T < 2048) (hn : notes T = nI (h T)) : f_X6_handedTo notes (nI S) (nI T) = some (nI (pc (S ^^^ T) + h T)) := by
  unfold f_X6_handedTo
  rw [xor_n, bc_ok _ (xor_lt hS hT), Option.bind_some, ob_t (inb_nI hT (by decide)), nI_clamp (by omega), hn, nI_add]
theorem follower_ok {κ : Nat → Nat} {N : Nat} {whole : Int32} {ends order notes : Nat → Int32} (hG : GS κ N whole ends order) (hN : N ≤ 2048) {S w : Nat} (hw : w < 2 ^ 30) (hS : S < 2048) {h : Nat → Nat} (hn : ∀ T, T ∈ grp κ w N → notes T = nI (h T) ∧ h T < 2 ^ 20) (hne : grp κ w N ≠ []) : ∃ T, f_X6_follower whole ends order notes (nI S) (nI w) = some (nI T) ∧ BT (fun T => pc (S ^^^ T) + h T) (grp κ w N) T := by
  obtain ⟨a, e1, e2, h1, h2⟩ := hG w hw
  unfold f_X6_follower L_X6_follower_20
  rw [e2, Option.bind_some, e1, Option.bind_some]
  refine loopR _ (fun o => ∃ T, o = some (nI T) ∧ BT (fun T => pc (S ^^^ T) + h T) (grp κ w N) T) (fun m t => ∃ (i : Nat) (x y : Int32), t = (x, y, nI (a + i)) ∧ i ≤ (grp κ w N).length ∧ m = (grp κ w N).length - i ∧ ((i = 0 ∧ y = nI 2147483647) ∨ ∃ j, j < i ∧ x = nI ((grp κ w N).getD j 0) ∧ y = nI (pc (S ^^^ (grp κ w N).getD j 0) + h ((grp κ w N).getD j 0)) ∧ (∀ k, k < i → pc (S ^^^ (grp κ w N).getD j 0) + h ((grp κ w N).getD j 0) ≤ pc (S ^^^ (grp κ w N).getD k 0) + h ((grp κ w N).getD k 0)) ∧ ∀ k, k < j → pc (S ^^^ (grp κ w N).getD j 0) + h ((grp κ w N).getD j 0) < pc (S ^^^ (grp κ w N).getD k 0) + h ((grp κ w N).getD k 0))) ?_ FUEL (grp κ w N).length _ ⟨0, 0, 2147483647, rfl, Nat.zero_le _, rfl, Or.inl ⟨rfl, rfl⟩⟩ (fuel_lt (by omega))
  rintro m t ⟨i, x, y, rfl, hi, rfl, hI⟩ rec
  by_cases e : i = (grp κ w N).length
  · left
    have hne2 : ¬ i = 0 := fun z => hne (List.length_eq_zero_iff.mp (by omega))
    rcases hI with ⟨z, -⟩ | ⟨j, j1, rfl, -, j3, j4⟩
    · exact absurd z hne2
    · refine ⟨(grp κ w N).getD j 0, ?_, gD_mem (by omega), fun U hU => ?_, fun U hU hlt => ?_⟩
      · show LB_X6_follower_20 _ _ _ _ _ rec _ y (nI (a + i)) = _
        unfold LB_X6_follower_20
        rw [e, if_pos (nI_le (Nat.le_refl _) (by omega))]
        rfl
      · obtain ⟨k, k1, k2⟩ := mem_gD hU
        rw [← k2]; exact j3 k (by omega)
      · obtain ⟨k, k1, k2⟩ := mem_gD hU
        rw [← k2] at hlt ⊢
        refine j4 k ?_
        refine Nat.lt_of_not_le (fun z => ?_)
        by_cases c : k = j
        · rw [c] at hlt; omega
        · have := srt_iff.mp (grp_srt κ w N) j k (by omega) k1
          omega
  · have hil : i < (grp κ w N).length := by omega
    have hm := gD_grp hil
    have hnn := hn _ (gD_mem hil)
    have hpc := pc_le (S ^^^ (grp κ w N).getD i 0)
    have hcode : LB_X6_follower_20 order notes (nI S) (nI (a + (grp κ w N).length)) (fun t => B_X6_follower_66 t.1) rec x y (nI (a + i)) = if y ≤ nI (pc (S ^^^ (grp κ w N).getD i 0) + h ((grp κ w N).getD i 0)) then rec (x, y, nI (a + i + 1)) else rec (nI ((grp κ w N).getD i 0), nI (pc (S ^^^ (grp κ w N).getD i 0) + h ((grp κ w N).getD i 0)), nI (a + i + 1)) := by
      unfold LB_X6_follower_20 B_X6_follower_60
      have ib : inb (nI (a + i)) 2048 = true := inb_nI (by omega) (by decide)
      rw [if_neg (nI_ge (by omega) (by omega)), ob_t ib, nI_clamp (by omega), h2 i hil, handedTo_ok (h := h) hS (by omega) hnn.1, Option.bind_some, ob_t ib, nI_1]
    right
    rcases hI with ⟨rfl, rfl⟩ | ⟨j, j1, rfl, rfl, j3, j4⟩
    · rw [if_neg (nI_ge (by omega) (by decide))] at hcode
      refine ⟨_, _, ?_, ⟨1, _, _, rfl, by omega, rfl, Or.inr ⟨0, by omega, rfl, rfl, fun k hk => ?_, fun k hk => absurd hk (by omega)⟩⟩, hcode⟩
      · omega
      · rw [show k = 0 by omega]; exact Nat.le_refl _
    · have hnj := hn _ (gD_mem (l := grp κ w N) (i := j) (by omega))
      have hpj := pc_le (S ^^^ (grp κ w N).getD j 0)
      by_cases c : pc (S ^^^ (grp κ w N).getD j 0) + h ((grp κ w N).getD j 0) ≤ pc (S ^^^ (grp κ w N).getD i 0) + h ((grp κ w N).getD i 0)
      · rw [if_pos (nI_le c (by omega))] at hcode
        refine ⟨(grp κ w N).length - (i + 1), _, by omega, ⟨i + 1, _, _, rfl, by omega, rfl, Or.inr ⟨j, by omega, rfl, rfl, fun k hk => ?_, j4⟩⟩, hcode⟩
        by_cases c2 : k = i
        · rw [c2]; exact c
        · exact j3 k (by omega)
      · rw [if_neg (nI_ge (by omega) (by omega))] at hcode
        refine ⟨(grp κ w N).length - (i + 1), _, by omega, ⟨i + 1, _, _, rfl, by omega, rfl, Or.inr ⟨i, by omega, rfl, rfl, fun k hk => ?_, fun k hk => ?_⟩⟩, hcode⟩
        · by_cases c2 : k = i
          · rw [c2]; exact Nat.le_refl _
          · have := j3 k (by omega); omega
        · have := j3 k (by omega); omega
theorem lookAhead_ok {κ : Nat → Nat} {N : Nat} {whole : Int32} {ends order notes : Nat → Int32} (hG : GS κ N whole ends order) (hN : N ≤ 2048) {u w : Nat} (hu : u < 2 ^ 30) (hw : w < 2 ^ 30) (huw : u ≠ w) {h : Nat → Nat} (hn : ∀ T, T ∈ grp κ w N → notes T = nI (h T) ∧ h T < 2 ^ 20) (hne : grp κ w N ≠ []) : ∃ n', f_X6_lookAhead whole ends order notes (nI u) (nI w) = some n' ∧ (∀ S, S ∈ grp κ u N → ∃ T, BT (fun T => pc (S ^^^ T) + h T) (grp κ w N) T ∧ n' S = nI (pc (S ^^^ T) + h T)) ∧ ∀ S, S ∉ grp κ u N → n' S = notes S := by
  obtain ⟨a, e1, e2, h1, h2⟩ := hG u hu
  unfold f_X6_lookAhead L_X6_lookAhead_6
  rw [e1, Option.bind_some]
  obtain ⟨n', ⟨-, f1, f2⟩, q⟩ := upK (fun rec t => LB_X6_lookAhead_6 whole ends order (nI u) (nI w) (fun t => B_X6_lookAhead_49 t.2) rec t.1 t.2) (fun t => B_X6_lookAhead_49 t.2) (a + (grp κ u N).length) (fun j n => a ≤ j ∧ (∀ i, i < j - a → ∃ T, BT (fun T => pc ((grp κ u N).getD i 0 ^^^ T) + h T) (grp κ w N) T ∧ n ((grp κ u N).getD i 0) = nI (pc ((grp κ u N).getD i 0 ^^^ T) + h T)) ∧ ∀ S, S ∉ grp κ u N → n S = notes S) (by omega) (fun j n hj hI rec => by
      obtain ⟨j0, i1, i2⟩ := hI
      obtain ⟨i, rfl⟩ : ∃ i, j = a + i := ⟨j - a, by omega⟩
      rw [show a + i - a = i by omega] at i1
      have hil : i < (grp κ u N).length := by omega
      have hm := gD_grp hil
      have ho := h2 i hil
      have hn2 : ∀ T, T ∈ grp κ w N → n T = nI (h T) ∧ h T < 2 ^ 20 := fun T hT => by
        rw [i2 T (fun z => huw (((grp_mem κ u N T).mp z).2.symm.trans ((grp_mem κ w N T).mp hT).2))]
        exact hn T hT
      obtain ⟨T, eT, bT⟩ := follower_ok (S := (grp κ u N).getD i 0) hG hN hw (by omega) hn2 hne
      have hT := (grp_mem κ w N T).mp bT.1
      refine ⟨upd n ((grp κ u N).getD i 0) (nI (pc ((grp κ u N).getD i 0 ^^^ T) + h T)), ⟨by omega, fun k hk => ?_, fun S hS => ?_⟩, ?_⟩
      · rw [show a + i + 1 - a = i + 1 by omega] at hk
        by_cases c : k = i
        · rw [c, pk_us]; exact ⟨T, bT, rfl⟩
        · rw [pk_un (fun z => c (grp_inj (by omega) hil z))]; exact i1 k (by omega)
      · rw [pk_un (fun z => hS (by rw [z]; exact gD_mem hil))]; exact i2 S hS
      · show LB_X6_lookAhead_6 _ _ _ _ _ _ rec (nI (a + i)) n = _
        unfold LB_X6_lookAhead_6
        rw [e2, Option.bind_some, if_neg (nI_ge (by omega) (by omega)), ob_t (inb_nI (by omega) (by decide)), nI_clamp (by omega), ho, eT, Option.bind_some, handedTo_ok (h := h) (by omega) (by omega) (hn2 T bT.1).1, Option.bind_some, ob_t (inb_nI (by omega) (by decide)), nI_clamp (by omega), nI_1]) (fun n _ rec => by
      show LB_X6_lookAhead_6 _ _ _ _ _ _ rec (nI (a + (grp κ u N).length)) n = _
      unfold LB_X6_lookAhead_6
      rw [e2, Option.bind_some, if_pos (nI_le (Nat.le_refl _) (by omega))]) (j := a) (s := notes) (by omega) ⟨Nat.le_refl _, fun i hi => absurd hi (by omega), fun S _ => rfl⟩
  refine ⟨n', q.trans rfl, fun S hS => ?_, f2⟩
  obtain ⟨i, k1, k2⟩ := mem_gD hS
  have := f1 i (by omega)
  rw [k2] at this
  exact this
