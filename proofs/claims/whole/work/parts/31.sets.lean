/-! sets of pieces: their worths, sorted into groups -/
/-- a loop that counts up and goes on behind -/
theorem upK {σ β : Type} (body : (Int32 × σ → Option β) → Int32 × σ → Option β) (kx : Int32 × σ → Option β) (N : Nat) (I : Nat → σ → Prop) (hN : N < 2 ^ 39) (step : ∀ j s, j < N → I j s → ∀ rec, ∃ s', I (j + 1) s' ∧ body rec (nI j, s) = rec (nI (j + 1), s')) (fin : ∀ s, I N s → ∀ rec, body rec (nI N, s) = kx (nI N, s)) {j : Nat} {s : σ} (hj : j ≤ N) (h : I j s) : ∃ s', I N s' ∧ fixN body FUEL (nI j, s) = kx (nI N, s') := by
  refine loopR body (fun o => ∃ s', I N s' ∧ o = kx (nI N, s')) (fun m a => ∃ j s, a = (nI j, s) ∧ j ≤ N ∧ m = N - j ∧ I j s) ?_ FUEL (N - j) _ ⟨j, s, rfl, hj, rfl, h⟩ (fuel_lt (by omega))
  rintro m a ⟨j, s, rfl, hj, rfl, hI⟩ rec
  by_cases e : j = N
  · subst e; exact Or.inl ⟨s, hI, fin s hI rec⟩
  · obtain ⟨s', h1, h2⟩ := step j s (by omega) hI rec
    exact Or.inr ⟨N - (j + 1), _, by omega, ⟨j + 1, s', rfl, by omega, rfl, h1⟩, h2⟩
/-- a loop that counts down -/
theorem dnK {σ β : Type} (body : (Int32 × σ → Option β) → Int32 × σ → Option β) (kx : Int32 × σ → Option β) (N : Nat) (I : Nat → σ → Prop) (hN : N < 2 ^ 39) (step : ∀ m s, m < N → I (m + 1) s → ∀ rec, ∃ s', I m s' ∧ body rec (nI m, s) = rec (nI m + (-1 : Int32), s')) (fin : ∀ s, I 0 s → ∀ rec, body rec (-1, s) = kx (-1, s)) {s : σ} (h : I N s) : ∃ s', I 0 s' ∧ fixN body FUEL (nI N - 1, s) = kx (-1, s') := by
  refine loopR body (fun o => ∃ s', I 0 s' ∧ o = kx (-1, s')) (fun m a => ∃ s, a = (nI m - 1, s) ∧ m ≤ N ∧ I m s) ?_ FUEL N _ ⟨s, rfl, Nat.le_refl _, h⟩ (fuel_lt (by omega))
  rintro m a ⟨s, rfl, hm, hI⟩ rec
  cases m with
  | zero => exact Or.inl ⟨s, hI, fin s hI rec⟩
  | succ m =>
    rw [show nI (m + 1) - (1 : Int32) = nI m from pk_sub (a := m + 1) (b := 1) (by omega)]
    obtain ⟨s', h1, h2⟩ := step m s (by omega) hI rec
    exact Or.inr ⟨m, _, by omega, ⟨s', rfl, by omega, h1⟩, by rw [h2, Int32.sub_eq_add_neg]⟩
def cn (κ : Nat → Nat) (w n : Nat) : Nat := (grp κ w n).length
theorem cn_succ (κ : Nat → Nat) (w n : Nat) : cn κ w (n + 1) = cn κ w n + (if κ n = w then 1 else 0) := by
  show (if κ n = w then grp κ w n ++ [n] else grp κ w n).length = (grp κ w n).length + _
  by_cases h : κ n = w
  · rw [if_pos h, if_pos h, List.length_append]; rfl
  · rw [if_neg h, if_neg h, Nat.add_zero]
theorem cn_mono (κ : Nat → Nat) (w n : Nat) : ∀ d, cn κ w n ≤ cn κ w (n + d)
  | 0 => Nat.le_refl _
  | d + 1 => by
    have := cn_mono κ w n d
    have := cn_succ κ w (n + d)
    rw [show n + (d + 1) = n + d + 1 by omega]
    omega
theorem cn_le (κ : Nat → Nat) (w : Nat) {n m : Nat} (h : n ≤ m) : cn κ w n ≤ cn κ w m := by
  have := cn_mono κ w n (m - n)
  rw [show n + (m - n) = m by omega] at this
  exact this
theorem grp_mem (κ : Nat → Nat) (w : Nat) : ∀ n S, S ∈ grp κ w n ↔ S < n ∧ κ S = w
  | 0, S => by
    show S ∈ ([] : List Nat) ↔ _
    simp
  | n + 1, S => by
    have ih := grp_mem κ w n S
    show S ∈ (if κ n = w then grp κ w n ++ [n] else grp κ w n) ↔ _
    by_cases h : κ n = w
    · rw [if_pos h, List.mem_append, ih, List.mem_singleton]
      constructor
      · rintro (⟨a, b⟩ | rfl)
        · exact ⟨by omega, b⟩
        · exact ⟨by omega, h⟩
      · rintro ⟨a, b⟩
        by_cases e : S = n
        · exact Or.inr e
        · exact Or.inl ⟨by omega, b⟩
    · rw [if_neg h, ih]
      constructor
      · rintro ⟨a, b⟩; exact ⟨by omega, b⟩
      · rintro ⟨a, b⟩
        refine ⟨?_, b⟩
        by_cases e : S = n
        · rw [e] at b; exact absurd b h
        · omega
theorem grp_get (κ : Nat → Nat) (w : Nat) : ∀ n i, i < cn κ w n → ∃ T, T < n ∧ κ T = w ∧ cn κ w T = i ∧ (grp κ w n).getD i 0 = T
  | 0, i, h => absurd h (by show ¬ i < 0; omega)
  | n + 1, i, h => by
    rw [cn_succ] at h
    show ∃ T, T < n + 1 ∧ κ T = w ∧ cn κ w T = i ∧ (if κ n = w then grp κ w n ++ [n] else grp κ w n).getD i 0 = T
    by_cases e : κ n = w
    · rw [if_pos e] at h ⊢
      by_cases hi : i < cn κ w n
      · obtain ⟨T, h1, h2, h3, h4⟩ := grp_get κ w n i hi
        exact ⟨T, by omega, h2, h3, by rw [gDa hi, h4]⟩
      · have : i = cn κ w n := by omega
        refine ⟨n, by omega, e, this.symm, ?_⟩
        rw [gDb (by show cn κ w n ≤ i; omega), this]
        show [n].getD (cn κ w n - cn κ w n) 0 = n
        rw [Nat.sub_self]; rfl
    · rw [if_neg e] at h ⊢
      obtain ⟨T, h1, h2, h3, h4⟩ := grp_get κ w n i (by omega)
      exact ⟨T, by omega, h2, h3, h4⟩
theorem pre_addf (a b : Nat → Nat) : ∀ k, pre (fun u => a u + b u) k = pre a k + pre b k
  | 0 => rfl
  | k + 1 => by
    show pre (fun u => a u + b u) k + (a k + b k) = pre a k + a k + (pre b k + b k)
    rw [pre_addf a b k]; omega
theorem pre_hot (c : Nat) : ∀ k, pre (fun u => if c = u then 1 else 0) k = if c < k then 1 else 0
  | 0 => by rw [if_neg (by omega)]; rfl
  | k + 1 => by
    show pre (fun u => if c = u then 1 else 0) k + (if c = k then 1 else 0) = _
    rw [pre_hot c k]
    by_cases h1 : c < k
    · rw [if_pos h1, if_neg (by omega), if_pos (by omega)]
    · rw [if_neg h1]
      by_cases h2 : c = k
      · rw [if_pos h2, if_pos (by omega)]
      · rw [if_neg h2, if_neg (by omega)]
theorem pre_zero : ∀ k, pre (fun _ => 0) k = 0
  | 0 => rfl
  | k + 1 => by
    show pre (fun _ => 0) k + 0 = 0
    rw [pre_zero k]
theorem cn_tot (κ : Nat → Nat) (W : Nat) : ∀ n, (∀ S, S < n → κ S ≤ W) → pre (fun u => cn κ u n) (W + 1) = n
  | 0, _ => pre_zero _
  | n + 1, h => by
    have e : (fun u => cn κ u (n + 1)) = (fun u => cn κ u n + (if κ n = u then 1 else 0)) := funext (fun u => cn_succ κ u n)
    rw [e, pre_addf, pre_hot, cn_tot κ W n (fun S hS => h S (by omega)), if_pos (by have := h n (by omega); omega)]
theorem pre_mono2 {w : Nat → Nat} {a b : Nat} (h : a ≤ b) : pre w a ≤ pre w b := by
  have := pre_mono (w := w) (a := a) (b - a)
  rw [show a + (b - a) = b by omega] at this
  exact this
theorem sortGroups_ok {κ : Nat → Nat} {N W : Nat} (hN : N ≤ 2048) (hW : W ≤ 216) (hκ : ∀ S, S < N → κ S ≤ W) {worths : Nat → Int32} (hw : ∀ S, S < N → worths S = nI (κ S)) (ends order : Nat → Int32) : ∃ e o, f_X6_sortGroups (nI W) ends worths order (nI N) = some (e, o) ∧ (∀ w, w ≤ W + 1 → e w = nI (pre (fun u => cn κ u N) w)) ∧ ∀ T, T < N → o (pre (fun u => cn κ u N) (κ T) + cn κ (κ T) T) = nI T := by
  unfold f_X6_sortGroups L_X6_sortGroups_2
  obtain ⟨e1, h1, q1⟩ := upK (fun rec t => LB_X6_sortGroups_2 (nI W) (fun t => B_X6_sortGroups_25 (nI W) t.2 worths order (nI N)) rec t.1 t.2) (fun t => B_X6_sortGroups_25 (nI W) t.2 worths order (nI N)) (W + 2) (fun j e => ∀ w, w < j → e w = nI 0) (by omega) (fun j e hj hI rec => ⟨upd e j (nI 0), fun w hw => by
      by_cases c : w = j
      · rw [c, pk_us]
      · rw [pk_un c]; exact hI w (by omega), by
      show LB_X6_sortGroups_2 _ _ rec (nI j) e = _
      unfold LB_X6_sortGroups_2
      rw [nI_1, if_neg (nI_nlt (by omega) (by omega)), ob_t (inb_nI (by omega) (by decide)), nI_clamp (by omega), nI_1]
      rfl⟩) (fun e _ rec => by
      show LB_X6_sortGroups_2 _ _ rec (nI (W + 2)) e = _
      unfold LB_X6_sortGroups_2
      rw [nI_1, if_pos (nI_lt (by omega) (by omega))]) (j := 0) (s := ends) (by omega) (fun w h => absurd h (by omega))
  refine (Exists.imp fun e => Exists.imp fun o => And.imp_left fun z => q1.trans z) ?_
  unfold B_X6_sortGroups_25 L_X6_sortGroups_27
  obtain ⟨e2, h2, q2⟩ := upK (fun rec t => LB_X6_sortGroups_27 worths (nI N) (fun t => B_X6_sortGroups_53 (nI W) t.2 worths order (nI N)) rec t.1 t.2) (fun t => B_X6_sortGroups_53 (nI W) t.2 worths order (nI N)) N (fun j e => ∀ w, w ≤ W + 1 → e w = nI (cn κ w j)) (by omega) (fun j e hj hI rec => ⟨upd e (κ j) (nI (cn κ (κ j) j + 1)), fun w hw => by
      rw [cn_succ]
      by_cases c : w = κ j
      · rw [c, pk_us, if_pos rfl]
      · rw [pk_un c, if_neg (fun z => c z.symm)]; exact hI w hw, by
      have hk := hκ j hj
      show LB_X6_sortGroups_27 _ _ _ rec (nI j) e = _
      unfold LB_X6_sortGroups_27
      have hi : inb (nI (κ j)) 218 = true := inb_nI (by omega) (by decide)
      rw [if_neg (nI_ge hj (by omega)), ob_t (inb_nI (by omega) (by decide)), nI_clamp (by omega), hw j hj, ob_t hi, ob_t hi, nI_clamp (by omega), hI _ (by omega), nI_1, nI_1]⟩) (fun e _ rec => by
      show LB_X6_sortGroups_27 _ _ _ rec (nI N) e = _
      unfold LB_X6_sortGroups_27
      rw [if_pos (nI_le (Nat.le_refl _) (by omega))]) (j := 0) (s := e1) (by omega) (fun w hw => h1 w (by omega))
  refine (Exists.imp fun e => Exists.imp fun o => And.imp_left fun z => q2.trans z) ?_
  unfold B_X6_sortGroups_53 L_X6_sortGroups_55
  have c1 : ∀ w, w ≤ W + 1 → pre (fun u => cn κ u N) w ≤ N := fun w hw => by
    have h9 := pre_mono2 (w := fun u => cn κ u N) (a := w) (b := W + 1) hw
    rw [cn_tot κ W N hκ] at h9; exact h9
  have c2 : cn κ (W + 1) N = 0 := by
    rcases e : grp κ (W + 1) N with _ | ⟨x, t⟩
    · unfold cn; rw [e]; rfl
    · have : x ∈ grp κ (W + 1) N := by rw [e]; exact List.mem_cons_self
      have := (grp_mem κ (W + 1) N x).mp this
      have := hκ x this.1
      omega
  have c3 : ∀ w, w ≤ W + 1 → pre (fun u => cn κ u N) (w + 1) ≤ N := fun w hw => by
    by_cases c : w = W + 1
    · show pre (fun u => cn κ u N) w + cn κ w N ≤ N
      rw [c, c2]; exact c1 _ (by omega)
    · exact c1 _ (by omega)
  obtain ⟨e3, h3, q3⟩ := upK (fun rec t => LB_X6_sortGroups_55 (nI W) (fun t => B_X6_sortGroups_88 t.2 worths order (nI N)) rec t.1 t.2) (fun t => B_X6_sortGroups_88 t.2 worths order (nI N)) (W + 2) (fun j e => 1 ≤ j ∧ (∀ w, w < j → e w = nI (pre (fun u => cn κ u N) (w + 1))) ∧ ∀ w, j ≤ w → w ≤ W + 1 → e w = nI (cn κ w N)) (by omega) (fun j e hj hI rec => by
      have hj0 := hI.1
      · exact ⟨upd e j (nI (pre (fun u => cn κ u N) (j + 1))), ⟨by omega, fun w hw => by
          by_cases c : w = j
          · rw [c, pk_us]
          · rw [pk_un c]; exact hI.2.1 w (by omega), fun w h1 h2 => by rw [pk_un (by omega)]; exact hI.2.2 w (by omega) h2⟩, by
          show LB_X6_sortGroups_55 _ _ rec (nI j) e = _
          unfold LB_X6_sortGroups_55
          have ij : inb (nI j) 218 = true := inb_nI (by omega) (by decide)
          have e1' : nI j - (1 : Int32) = nI (j - 1) := pk_sub (b := 1) (by omega)
          rw [nI_1, if_neg (nI_nlt (by omega) (by omega)), ob_t ij, e1', ob_t (inb_nI (by omega) (by decide)), ob_t ij, nI_clamp (by omega), nI_clamp (by omega), nI_1, hI.2.1 (j - 1) (by omega), hI.2.2 j (by omega) (by omega), nI_add, show j - 1 + 1 = j by omega, Nat.add_comm (cn κ j N)]
          rfl⟩) (fun e _ rec => by
      show LB_X6_sortGroups_55 _ _ rec (nI (W + 2)) e = _
      unfold LB_X6_sortGroups_55
      rw [nI_1, if_pos (nI_lt (by omega) (by omega))]) (j := 1) (s := e2) (by omega) ⟨by omega, fun w hw => by rw [show w = 0 by omega, h2 0 (by omega)]; congr 1; exact (Nat.zero_add _).symm, fun w h1 h3 => h2 w h3⟩
  refine (Exists.imp fun e => Exists.imp fun o => And.imp_left fun z => q3.trans z) ?_
  unfold B_X6_sortGroups_88 L_X6_sortGroups_92
  obtain ⟨⟨e4, o4⟩, h4, q4⟩ := dnK (fun rec t => LB_X6_sortGroups_92 worths (fun t => B_X6_sortGroups_126 t.2.1 t.2.2) rec t.1 t.2.1 t.2.2) (fun t => B_X6_sortGroups_126 t.2.1 t.2.2) N (fun m t => (∀ w, w ≤ W + 1 → t.1 w = nI (pre (fun u => cn κ u N) w + cn κ w m)) ∧ ∀ T, m ≤ T → T < N → t.2 (pre (fun u => cn κ u N) (κ T) + cn κ (κ T) T) = nI T) (by omega) (fun m t hm hI rec => by
      obtain ⟨e, o⟩ := t
      obtain ⟨hI1, hI2⟩ := hI
      dsimp only at hI1 hI2
      have hk := hκ m hm
      have hs : cn κ (κ m) (m + 1) = cn κ (κ m) m + 1 := by rw [cn_succ, if_pos rfl]
      have hle := cn_le κ (κ m) (n := m + 1) (m := N) (by omega)
      have hpl : pre (fun u => cn κ u N) (κ m) + cn κ (κ m) m < 2048 := by
        have := c3 (κ m) (by omega)
        have e9 : pre (fun u => cn κ u N) (κ m + 1) = pre (fun u => cn κ u N) (κ m) + cn κ (κ m) N := rfl
        omega
      have ep : nI (pre (fun u => cn κ u N) (κ m) + (cn κ (κ m) m + 1)) - (1 : Int32) = nI (pre (fun u => cn κ u N) (κ m) + cn κ (κ m) m) := by
        rw [show nI (pre (fun u => cn κ u N) (κ m) + (cn κ (κ m) m + 1)) - (1 : Int32) = nI (pre (fun u => cn κ u N) (κ m) + (cn κ (κ m) m + 1) - 1) from pk_sub (b := 1) (by omega)]
        congr 1
      refine ⟨(upd e (κ m) (nI (pre (fun u => cn κ u N) (κ m) + cn κ (κ m) m)), upd o (pre (fun u => cn κ u N) (κ m) + cn κ (κ m) m) (nI m)), ⟨fun w hw => ?_, fun T h1 h2 => ?_⟩, ?_⟩
      · show upd e _ _ w = _
        by_cases c : w = κ m
        · rw [c, pk_us]
        · rw [pk_un c, hI1 w hw, cn_succ, if_neg (fun z => c z.symm)]; rfl
      · show upd o _ _ _ = _
        by_cases c : T = m
        · rw [c, pk_us]
        · rw [pk_un, hI2 T (by omega) h2]
          have hT := hκ T h2
          by_cases c2 : κ T = κ m
          · rw [c2]
            have := cn_le κ (κ m) (n := m + 1) (m := T) (by omega)
            omega
          · have a1 := cn_le κ (κ T) (n := T + 1) (m := N) (by omega)
            have a2 : cn κ (κ T) (T + 1) = cn κ (κ T) T + 1 := by rw [cn_succ, if_pos rfl]
            have e8 : pre (fun u => cn κ u N) (κ T + 1) = pre (fun u => cn κ u N) (κ T) + cn κ (κ T) N := rfl
            have e9 : pre (fun u => cn κ u N) (κ m + 1) = pre (fun u => cn κ u N) (κ m) + cn κ (κ m) N := rfl
            rcases Nat.lt_or_gt_of_ne c2 with c4 | c4
            · have := pre_mono2 (w := fun u => cn κ u N) (a := κ T + 1) (b := κ m) (by omega)
              omega
            · have := pre_mono2 (w := fun u => cn κ u N) (a := κ m + 1) (b := κ T) (by omega)
              omega
      · show LB_X6_sortGroups_92 _ _ rec (nI m) e o = _
        unfold LB_X6_sortGroups_92
        have hi : inb (nI (κ m)) 218 = true := inb_nI (by omega) (by decide)
        rw [if_neg (nI_pos (by omega)), ob_t (inb_nI (by omega) (by decide)), nI_clamp (by omega), hw m hm, ob_t hi, ob_t hi, nI_clamp (by omega), hI1 _ (by omega), hs, ep, ob_t (inb_nI hpl (by decide)), nI_clamp (by omega)]) (fun t _ rec => by
      show LB_X6_sortGroups_92 _ _ rec (-1) t.1 t.2 = _
      unfold LB_X6_sortGroups_92
      rw [if_pos (by decide)]) (s := (e3, order)) ⟨fun w hw => (h3.2.1 w (by omega)).trans rfl, fun T h1 h2 => absurd h2 (by omega)⟩
  refine ⟨e4, o4, q4.trans rfl, fun w hw => ?_, fun T hT => h4.2 T (by omega) hT⟩
  exact (h4.1 w hw).trans rfl
theorem ws_congr (g : Nat → Nat) : ∀ (k S T : Nat), (∀ i, i < k → S.testBit i = T.testBit i) → ws g k S = ws g k T
  | 0, _, _, _ => rfl
  | k + 1, S, T, h => by
    show ws g k S + (if S.testBit k = true then g k else 0) = ws g k T + (if T.testBit k = true then g k else 0)
    rw [ws_congr g k S T (fun i hi => h i (by omega)), h k (by omega)]
theorem tb_lt {S k : Nat} (h : S < 2 ^ k) : S.testBit k = false := Nat.testBit_lt_two_pow h
theorem ws_low (g : Nat → Nat) {k S : Nat} (h : S < 2 ^ k) : ws g (k + 1) S = ws g k S := by
  show ws g k S + (if S.testBit k = true then g k else 0) = _
  rw [tb_lt h, if_neg Bool.false_ne_true, Nat.add_zero]
theorem ws_high (g : Nat → Nat) {k S : Nat} (h : S < 2 ^ k) : ws g (k + 1) (2 ^ k + S) = ws g k S + g k := by
  show ws g k (2 ^ k + S) + (if (2 ^ k + S).testBit k = true then g k else 0) = _
  rw [Nat.testBit_two_pow_add_eq, tb_lt h, if_pos (show (!false) = true from rfl), ws_congr g k (2 ^ k + S) S (fun i hi => Nat.testBit_two_pow_add_gt hi S)]
theorem ws_le (g : Nat → Nat) : ∀ k S, ws g k S ≤ pre g k
  | 0, _ => Nat.le_refl _
  | k + 1, S => by
    show ws g k S + (if S.testBit k = true then g k else 0) ≤ pre g k + g k
    have := ws_le g k S
    split <;> omega
theorem ws_full (g : Nat → Nat) : ∀ k, ws g k (2 ^ k - 1) = pre g k
  | 0 => rfl
  | k + 1 => by
    show ws g k (2 ^ (k + 1) - 1) + (if (2 ^ (k + 1) - 1).testBit k = true then g k else 0) = pre g k + g k
    rw [Nat.testBit_two_pow_sub_one, decide_eq_true (show k < k + 1 by omega), if_pos rfl, ← ws_full g k, ws_congr g k (2 ^ (k + 1) - 1) (2 ^ k - 1) (fun i hi => by rw [Nat.testBit_two_pow_sub_one, Nat.testBit_two_pow_sub_one, decide_eq_true (show i < k + 1 by omega), decide_eq_true hi])]
theorem p11 {L : Nat} (h : L ≤ 11) : 2 ^ L ≤ 2048 := Nat.pow_le_pow_right (n := 2) (by decide) h
theorem loadSets_ok {L : Nat} {g : Nat → Nat} {v : Nat → Int32} (hL : L ≤ 11) (hg : pre g L ≤ 216) (hv : ∀ i, i < L → v i = nI (g i)) (worths ends order : Nat → Int32) : ∃ wo e o, f_X6_load worths ends order (nI L) v = some (nI (pre g L), nI L, 0, wo, e, o) ∧ (∀ S, S < 2 ^ L → wo S = nI (ws g L S)) ∧ (∀ w, w ≤ pre g L + 1 → e w = nI (pre (fun u => cn (ws g L) u (2 ^ L)) w)) ∧ ∀ T, T < 2 ^ L → o (pre (fun u => cn (ws g L) u (2 ^ L)) (ws g L T) + cn (ws g L) (ws g L T) T) = nI T := by
  have hp := p11 hL
  have hp0 : 0 < 2 ^ L := Nat.two_pow_pos L
  unfold f_X6_load L_X6_load_22
  rw [ob_t (by decide)]
  obtain ⟨wo, h1, q1⟩ := upK (fun rec t => LB_X6_load_22 (nI L) v (fun t => B_X6_load_78 (nI L) 0 t.2 ends order (nI L)) rec t.1 t.2) (fun t => B_X6_load_78 (nI L) 0 t.2 ends order (nI L)) L (fun j f => ∀ S, S < 2 ^ j → f S = nI (ws g j S)) (by omega) (fun j f hj hI rec => by
      have hpj : 2 ^ (j + 1) ≤ 2048 := p11 (by omega)
      have hpp : 2 ^ (j + 1) = 2 ^ j + 2 ^ j := by rw [Nat.pow_succ]; omega
      obtain ⟨f', h2, q2⟩ := upK (fun rec' t => LB_X6_load_37 v (nI j) (nI (2 ^ j)) (fun t => B_X6_load_72 (fun t => B_X6_load_78 (nI L) 0 t.2 ends order (nI L)) rec t.2 (nI j)) rec' t.1 t.2) (fun t => B_X6_load_72 (fun t => B_X6_load_78 (nI L) 0 t.2 ends order (nI L)) rec t.2 (nI j)) (2 ^ j) (fun m f' => (∀ S, S < 2 ^ j → f' S = nI (ws g j S)) ∧ ∀ S, S < m → f' (2 ^ j + S) = nI (ws g j S + g j)) (by omega) (fun m f' hm hI2 rec' => ⟨upd f' (2 ^ j + m) (nI (ws g j m + g j)), ⟨fun S hS => by rw [pk_un (by omega)]; exact hI2.1 S hS, fun S hS => by
          by_cases c : S = m
          · rw [c, pk_us]
          · rw [pk_un (by omega)]; exact hI2.2 S (by omega)⟩, by
          show LB_X6_load_37 _ _ _ _ rec' (nI m) f' = _
          unfold LB_X6_load_37
          rw [if_neg (nI_ge hm (by omega)), ob_t (inb_nI (by omega) (by decide)), ob_t (inb_nI (by omega) (by decide)), nI_add, ob_t (inb_nI (by omega) (by decide)), nI_clamp (by omega), nI_clamp (by omega), nI_clamp (by omega), hI2.1 m hm, hv j hj, nI_add, nI_1]⟩) (fun f' _ rec' => by
          show LB_X6_load_37 _ _ _ _ rec' (nI (2 ^ j)) f' = _
          unfold LB_X6_load_37
          rw [if_pos (nI_le (Nat.le_refl _) (by omega))]) (j := 0) (s := f) (Nat.zero_le _) ⟨hI, fun S hS => absurd hS (by omega)⟩
      refine ⟨f', fun S hS => ?_, ?_⟩
      · by_cases c : S < 2 ^ j
        · rw [ws_low g c]; exact h2.1 S c
        · obtain ⟨T, rfl⟩ : ∃ T, S = 2 ^ j + T := ⟨S - 2 ^ j, by omega⟩
          rw [ws_high g (by omega)]; exact h2.2 T (by omega)
      · show LB_X6_load_22 _ _ _ rec (nI j) f = _
        unfold LB_X6_load_22 L_X6_load_37
        rw [if_neg (nI_ge hj (by omega)), shl31 (by omega)]
        refine q2.trans ?_
        unfold B_X6_load_72
        rw [nI_1]) (fun f _ rec => by
      show LB_X6_load_22 _ _ _ rec (nI L) f = _
      unfold LB_X6_load_22
      rw [if_pos (nI_le (Nat.le_refl _) (by omega))]) (j := 0) (s := upd worths (0 : Int32).toNatClampNeg (0 : Int32)) (by omega) (fun S hS => by
      rw [show S = 0 by rw [Nat.pow_zero] at hS; omega]; rfl)
  obtain ⟨e, o, q3, h3, h4⟩ := sortGroups_ok (κ := ws g L) hp hg (fun S _ => ws_le g L S) h1 ends order
  refine ⟨wo, e, o, ?_, h1, h3, h4⟩
  refine q1.trans ?_
  show B_X6_load_78 (nI L) 0 wo ends order (nI L) = _
  unfold B_X6_load_78
  have em : nI (2 ^ L) - (1 : Int32) = nI (2 ^ L - 1) := pk_sub (b := 1) (by omega)
  rw [shl31 (by omega), em, ob_t (inb_nI (by omega) (by decide)), nI_clamp (by omega), h1 _ (by omega), ws_full, q3, Option.bind_some]
theorem laySets_ok {L : Nat} {g : Nat → Nat} {v : Nat → Int32} (hL : L ≤ 11) (hv : ∀ i, i < L → v i = nI (g i)) (worthOf : Nat → Int32) : ∃ wo, f_X11_laySets (nI L) worthOf v = some wo ∧ ∀ S, S < 2 ^ L → wo S = nI (ws g L S) := by
  unfold f_X11_laySets L_X11_laySets_9
  rw [ob_t (by decide)]
  obtain ⟨wo, h1, q1⟩ := upK (fun rec t => LB_X11_laySets_9 (nI L) v (fun t => B_X11_laySets_63 t.2) rec t.1 t.2) (fun t => B_X11_laySets_63 t.2) L (fun j f => ∀ S, S < 2 ^ j → f S = nI (ws g j S)) (by omega) (fun j f hj hI rec => by
      have hpj : 2 ^ (j + 1) ≤ 2048 := p11 (by omega)
      have hp0 : 0 < 2 ^ j := Nat.two_pow_pos j
      have hpp : 2 ^ (j + 1) = 2 ^ j + 2 ^ j := by rw [Nat.pow_succ]; omega
      have e2 : (2 : Int32) <<< (nI j &&& 31) = nI (2 ^ j + 2 ^ j) := by
        rw [show (31 : Int32) = nI 31 from rfl, and31 (by omega), show (2 : Int32) = nI 2 from rfl, pk_shlN (nI j) j (smod_n (by omega)) (by omega)]
        congr 1; omega
      obtain ⟨f', h2, q2⟩ := upK (fun rec' t => LB_X11_laySets_21 v (nI j) (fun t => B_X11_laySets_57 (fun t => B_X11_laySets_63 t.2) rec t.2 (nI j)) rec' t.1 t.2) (fun t => B_X11_laySets_57 (fun t => B_X11_laySets_63 t.2) rec t.2 (nI j)) (2 ^ j + 2 ^ j) (fun m f' => 2 ^ j ≤ m ∧ (∀ S, S < 2 ^ j → f' S = nI (ws g j S)) ∧ ∀ S, 2 ^ j + S < m → f' (2 ^ j + S) = nI (ws g j S + g j)) (by omega) (fun m f' hm hI2 rec' => by
          have hm0 := hI2.1
          have es : nI m - nI (2 ^ j) = nI (m - 2 ^ j) := pk_sub (by omega)
          refine ⟨upd f' m (nI (ws g j (m - 2 ^ j) + g j)), ⟨by omega, fun S hS => by rw [pk_un (by omega)]; exact hI2.2.1 S hS, fun S hS => ?_⟩, ?_⟩
          · by_cases c : 2 ^ j + S = m
            · rw [← c, pk_us, show 2 ^ j + S - 2 ^ j = S by omega]
            · rw [pk_un c]; exact hI2.2.2 S (by omega)
          · show LB_X11_laySets_21 _ _ _ rec' (nI m) f' = _
            unfold LB_X11_laySets_21
            rw [e2, if_neg (nI_ge hm (by omega)), shl31 (by omega), es, ob_t (inb_nI (by omega) (by decide)), ob_t (inb_nI (by omega) (by decide)), ob_t (inb_nI (by omega) (by decide)), nI_clamp (by omega), nI_clamp (by omega), nI_clamp (by omega), hI2.2.1 _ (by omega), hv j hj, nI_add, nI_1]) (fun f' _ rec' => by
          show LB_X11_laySets_21 _ _ _ rec' (nI (2 ^ j + 2 ^ j)) f' = _
          unfold LB_X11_laySets_21
          rw [e2, if_pos (nI_le (Nat.le_refl _) (by omega))]) (j := 2 ^ j) (s := f) (by omega) ⟨by omega, hI, fun S hS => absurd hS (by omega)⟩
      refine ⟨f', fun S hS => ?_, ?_⟩
      · by_cases c : S < 2 ^ j
        · rw [ws_low g c]; exact h2.2.1 S c
        · obtain ⟨T, rfl⟩ : ∃ T, S = 2 ^ j + T := ⟨S - 2 ^ j, by omega⟩
          rw [ws_high g (by omega)]; exact h2.2.2 T (by omega)
      · show LB_X11_laySets_9 _ _ _ rec (nI j) f = _
        unfold LB_X11_laySets_9 L_X11_laySets_21
        rw [if_neg (nI_ge hj (by omega)), shl31 (by omega)]
        refine q2.trans ?_
        unfold B_X11_laySets_57
        rw [nI_1]) (fun f _ rec => by
      show LB_X11_laySets_9 _ _ _ rec (nI L) f = _
      unfold LB_X11_laySets_9
      rw [if_pos (nI_le (Nat.le_refl _) (by omega))]) (j := 0) (s := upd worthOf (0 : Int32).toNatClampNeg (0 : Int32)) (by omega) (fun S hS => by
      rw [show S = 0 by rw [Nat.pow_zero] at hS; omega]; rfl)
  exact ⟨wo, q1.trans rfl, h1⟩
theorem GS_of {κ : Nat → Nat} {N W : Nat} (hN : N ≤ 2048) (hW : W ≤ 216) (hκ : ∀ S, S < N → κ S ≤ W) {e o : Nat → Int32} (he : ∀ w, w ≤ W + 1 → e w = nI (pre (fun u => cn κ u N) w)) (ho : ∀ T, T < N → o (pre (fun u => cn κ u N) (κ T) + cn κ (κ T) T) = nI T) : GS κ N (nI W) e o := by
  intro w hw
  unfold f_X6_from f_X6_to B_X6_from_22 B_X6_to_24
  rw [within_ok]
  simp only [Option.bind_some]
  by_cases h : w ≤ W
  · have h0 : (0 : Int32) ≤ nI w ∧ nI w ≤ nI W := ⟨nI_pos' (by omega), nI_le h (by omega)⟩
    rw [if_pos h0, if_neg n10, if_neg n10, nI_1, ob_t (inb_nI (by omega) (by decide)), ob_t (inb_nI (by omega) (by decide)), nI_clamp (by omega), nI_clamp (by omega), he w (by omega), he (w + 1) (by omega)]
    refine ⟨_, rfl, rfl, ?_, fun i hi => ?_⟩
    · have := pre_mono2 (w := fun u => cn κ u N) (a := w + 1) (b := W + 1) (by omega)
      rw [cn_tot κ W N hκ] at this
      have e9 : pre (fun u => cn κ u N) (w + 1) = pre (fun u => cn κ u N) w + (grp κ w N).length := rfl
      omega
    · obtain ⟨T, h1, h2, h3, h4⟩ := grp_get κ w N i hi
      rw [h4, ← ho T h1, h2, h3]
  · have h0 : ¬ ((0 : Int32) ≤ nI w ∧ nI w ≤ nI W) := fun z => nI_ge (a := W) (b := w) (by omega) (by omega) z.2
    rw [if_neg h0, if_pos rfl, if_pos rfl]
    have hl : (grp κ w N).length = 0 := by
      rcases e : grp κ w N with _ | ⟨x, t⟩
      · rfl
      · have : x ∈ grp κ w N := by rw [e]; exact List.mem_cons_self
        have := (grp_mem κ w N x).mp this
        have := hκ x this.1
        omega
    exact ⟨0, rfl, by rw [hl]; rfl, by omega, fun i hi => absurd hi (by omega)⟩
/-- both load the same sets -/
theorem setsC {L : Nat} {g : Nat → Nat} {v : Nat → Int32} (hL : L ≤ 11) (hg : pre g L ≤ 216) (hv : ∀ i, i < L → v i = nI (g i)) (worths ends order : Nat → Int32) : ∃ wo e o, f_X6_load worths ends order (nI L) v = some (nI (pre g L), nI L, 0, wo, e, o) ∧ (∀ S, S < 2 ^ L → wo S = nI (ws g L S)) ∧ GS (ws g L) (2 ^ L) (nI (pre g L)) e o := by
  obtain ⟨wo, e, o, q, h1, h2, h3⟩ := loadSets_ok hL hg hv worths ends order
  exact ⟨wo, e, o, q, h1, GS_of (p11 hL) hg (fun S _ => ws_le g L S) h2 h3⟩
