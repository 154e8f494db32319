/-! kind, link: the chain's own data -/
theorem forget_ok (known : Nat → Int32) : ∃ f, f_X0_forget known = some f ∧ ∀ k, k ≤ 4 → f k = 0 := by
  unfold f_X0_forget L_X0_forget_2
  refine fixN_post _ (fun t : Int32 × (Nat → Int32) => ∃ j, j ≤ 5 ∧ t.1 = nI j ∧ ∀ i, i < j → t.2 i = 0) (fun t => 5 - t.1.toNatClampNeg) (fun _ o => ∃ f : Nat → Int32, o = some f ∧ ∀ k, k ≤ 4 → f k = 0) ?_ FUEL ((0 : Int32), known) ⟨0, by decide, rfl, fun i hi => absurd hi (by omega)⟩ (fuel_lt (by show 5 - _ < _; omega))
  rintro rec ⟨v, f⟩ ⟨j, h1, hv, hf⟩ hrec
  dsimp only at hv hf
  subst hv
  show ∃ f', LB_X0_forget_2 _ rec (nI j) f = some f' ∧ _
  unfold LB_X0_forget_2
  by_cases hj : 4 < j
  · rw [if_pos (show (4 : Int32) < nI j from nI_lt hj (by omega))]
    exact ⟨f, rfl, fun i hi => hf i (by omega)⟩
  · rw [if_neg (show ¬ (4 : Int32) < nI j from nI_nlt (a := 4) (b := j) (by omega) (by decide)), ob_t (inb_nI (by omega) (by decide)), nI_clamp (by omega), nI_1]
    refine hrec (nI (j + 1), _) ⟨j + 1, by omega, rfl, fun i hi => ?_⟩ (by show 5 - (nI (j + 1)).toNatClampNeg < 5 - (nI j).toNatClampNeg; rw [nI_clamp (by omega), nI_clamp (by omega)]; omega)
    show upd f j _ i = 0
    by_cases hi2 : i = j
    · subst hi2; rw [pk_us]; rfl
    · rw [pk_un hi2]; exact hf i (by omega)
theorem BeC_forget {kd n : Nat} {w : Nat → Nat} {r off dbl : Nat} {known far : Nat → Int32} {rows : Nat → Nat → Int32} (h : ∀ k, k ≤ 4 → known k = 0) : BeC kd n w r off dbl known far rows := fun k hk => Or.inl (h k hk)
theorem RelI_congr {a b c d : Int32} {e f g : Nat → Int32} {h i j : Int32} {k : Nat → Int32} {l : Int32} {w w' : Nat → Int32} (hw : ∀ x, 30 ≤ x → w' x = w x) (hI : RelI a b c d e f g h i j k l w) : RelI a b c d e f g h i j k l w' := by
  obtain ⟨h1, h2⟩ := hI
  refine ⟨h1, ?_⟩
  rcases h2 with h2 | ⟨h2, kd, n, wo, cs, r, off, dbl, g1, g2, ⟨m1, m2, m3, m4⟩, g4, g5, d1, d2, d3⟩
  · exact Or.inl h2
  · exact Or.inr ⟨h2, kd, n, wo, cs, r, off, dbl, g1, g2, ⟨by rw [hw _ (by omega)]; exact m1, by rw [hw _ (by omega)]; exact m2, fun x hx => by rw [hw _ (by omega)]; exact m3 x hx, by rw [hw _ (by omega)]; exact m4⟩, g4, g5, by rw [hw _ (by omega)]; exact d1, by rw [hw _ (by omega)]; exact d2, by rw [hw _ (by omega)]; exact d3⟩
theorem c_kind {kind links cutCount : Int32} {worths ahead cuts : Nat → Int32} {each offc twice : Int32} {dues known far : Nat → Int32} {rows : Nat → Nat → Int32} {mw : Nat → Int32} (hC : RelC kind links cutCount worths ahead cuts each offc twice dues known far rows mw) (p0 : Int32) : ∃ (rx : Int32 × Int32 × Int32 × (Nat → Int32)) (ry : Int32 × (Nat → Int32)), f_X10_kind kind cutCount known p0 = some rx ∧ f_X11_kind mw p0 = some ry ∧ rx.1 = ry.1 ∧ RelC rx.2.1 links rx.2.2.1 worths ahead cuts each offc twice dues rx.2.2.2 far rows ry.2 ∧ ∀ x, 30 ≤ x → ry.2 x = mw x := by
  unfold f_X10_kind f_X11_kind
  rw [within_ok, in_lit p0 0 3 (by decide) (by decide)]
  by_cases h0 : (0 : Int32) ≤ p0 ∧ p0 ≤ 3
  · rw [if_pos h0]
    simp only [Option.bind_some]
    rw [if_neg (show ¬ (1 : Int32) = 0 by decide), if_neg (show ¬ (1 : Int32) = 0 by decide), ob_t (by decide), ob_t (by decide), ob_t (by decide)]
    obtain ⟨f, ef, hf⟩ := forget_ok known
    rw [ef]
    obtain ⟨v, hv, rfl⟩ := nat_of (N := 3) (M := 3) (by decide) h0
    obtain ⟨kd, n, w, cs, r, off, dbl, ⟨g1, g2, g3, g4, g5, g6, g7⟩, ⟨c1, c2, c3, c4, c5, c6⟩, ⟨m1, m2, m3, m4⟩, hDV, hDC, ⟨d1, d2, d3⟩, hB⟩ := hC
    refine ⟨_, _, rfl, rfl, ?_, ⟨v, n, w, [], r, off, dbl, ⟨hv, g2, g3, g4, by decide, List.Pairwise.nil, fun _ h => by cases h⟩, ⟨rfl, c2, rfl, c4, c5, fun i hi => absurd hi (by simp)⟩, ⟨?_, ?_, fun i hi => ?_, ?_⟩, hDV, hDC, ⟨?_, ?_, ?_⟩, BeC_forget hf⟩, fun x hx => ?_⟩
    · show kind = mw 0
      rw [c1, m1]
    · show upd (upd mw 0 (nI v)) 26 0 0 = _
      rw [pk_un (by decide), pk_us]
    · show upd (upd mw 0 (nI v)) 26 0 1 = _
      rw [pk_un (by decide), pk_un (by decide)]; exact m2
    · show upd (upd mw 0 (nI v)) 26 0 (0 + 2 + i) = _
      rw [pk_un (by omega), pk_un (by omega)]; exact m3 i hi
    · show upd (upd mw 0 (nI v)) 26 0 26 = _
      rw [pk_us]; rfl
    · show upd (upd mw 0 (nI v)) 26 0 27 = _
      rw [pk_un (by decide), pk_un (by decide)]; exact d1
    · show upd (upd mw 0 (nI v)) 26 0 28 = _
      rw [pk_un (by decide), pk_un (by decide)]; exact d2
    · show upd (upd mw 0 (nI v)) 26 0 29 = _
      rw [pk_un (by decide), pk_un (by decide)]; exact d3
    · show upd (upd mw 0 (nI v)) 26 0 x = _
      rw [pk_un (by omega), pk_un (by omega)]
  · rw [if_neg h0]
    exact ⟨_, _, rfl, rfl, rfl, hC, fun _ _ => rfl⟩
theorem pre_le {w : Nat → Nat} : ∀ (n : Nat), (∀ i, i < n → w i ≤ 9) → pre w n ≤ 9 * n
  | 0, _ => Nat.le_refl _
  | n + 1, h => by
    have h1 := pre_le n (fun i hi => h i (by omega))
    have h2 := h n (by omega)
    show pre w n + w n ≤ _
    omega
theorem pre_congr {w w' : Nat → Nat} : ∀ (n : Nat), (∀ i, i < n → w i = w' i) → pre w n = pre w' n
  | 0, _ => rfl
  | n + 1, h => by
    show pre w n + w n = pre w' n + w' n
    rw [pre_congr n (fun i hi => h i (by omega)), h n (by omega)]
theorem c_link {kind links cutCount : Int32} {worths ahead cuts : Nat → Int32} {each offc twice : Int32} {dues known far : Nat → Int32} {rows : Nat → Nat → Int32} {mw : Nat → Int32} (hC : RelC kind links cutCount worths ahead cuts each offc twice dues known far rows mw) (p0 : Int32) : ∃ (rx : Int32 × Int32 × (Nat → Int32) × (Nat → Int32) × (Nat → Int32)) (ry : Int32 × (Nat → Int32)), f_X10_link links worths ahead known p0 = some rx ∧ f_X11_link mw p0 = some ry ∧ rx.1 = ry.1 ∧ RelC kind rx.2.1 cutCount rx.2.2.1 rx.2.2.2.1 cuts each offc twice dues rx.2.2.2.2 far rows ry.2 ∧ ∀ x, 30 ≤ x → ry.2 x = mw x := by
  unfold f_X10_link f_X11_link
  rw [within_ok, in_lit p0 1 9 (by decide) (by decide)]
  by_cases h0 : (1 : Int32) ≤ p0 ∧ p0 ≤ 9
  · rw [if_pos h0]
    simp only [Option.bind_some]
    rw [if_neg (show ¬ (1 : Int32) = 0 by decide), if_neg (show ¬ (1 : Int32) = 0 by decide), ob_t (by decide)]
    have hC' := hC
    obtain ⟨kd, n, w, cs, r, off, dbl, ⟨g1, g2, g3, g4, g5, g6, g7⟩, ⟨c1, c2, c3, c4, c5, c6⟩, ⟨m1, m2, m3, m4⟩, hDV, hDC, ⟨d1, d2, d3⟩, hB⟩ := hC
    have em1 : mw (1 : Int32).toNatClampNeg = nI n := m2
    rw [em1, c2]
    by_cases hn : n < 24
    · rw [if_pos (show nI n < (24 : Int32) from nI_lt hn (by decide)), if_neg (show ¬ nI n = (24 : Int32) from fun z => absurd ((nI_eq (b := 24) (by omega) (by decide)).mp z) (by omega))]
      obtain ⟨v, hv, rfl⟩ := nat_of (N := 9) (M := 9) (by decide) ⟨Int32.le_trans (by decide) h0.1, h0.2⟩
      have hv1 : 1 ≤ v := (nI_leI (a := 1) (b := v) (by decide) (by omega)).mp h0.1
      unfold f_X1_append
      have hp := pre_le n (fun i hi => (g4 i hi).2)
      rw [ob_t (inb_nI (by omega) (by decide)), ob_t (inb_nI (by omega) (by decide)), nI_1, ob_t (inb_nI (by omega) (by decide)), nI_clamp (by omega), nI_clamp (by omega), c5 n (Nat.le_refl _), nI_add]
      simp only [Option.bind_some]
      obtain ⟨f, ef, hf⟩ := forget_ok known
      rw [ef, show (2 : Int32) + nI n = nI (2 + n) from nI_add 2 n, ob_t (by decide), ob_t (inb_nI (by omega) (by decide)), ob_t (by decide), ob_t (by decide), ob_t (by decide), nI_clamp (by omega)]
      have e1 : upd mw (2 + n) (nI v) (1 : Int32).toNatClampNeg = nI n := by
        show upd mw (2 + n) (nI v) 1 = nI n
        rw [pk_un (by omega)]; exact m2
      rw [e1, nI_1]
      refine ⟨_, _, rfl, rfl, rfl, ⟨kd, n + 1, fun i => if i = n then v else w i, cs, r, off, dbl, ⟨g1, by omega, by omega, fun i hi => ?_, g5, g6, fun c hc => ?_⟩, ⟨c1, rfl, c3, fun i hi => ?_, fun i hi => ?_, c6⟩, ⟨?_, ?_, fun i hi => ?_, ?_⟩, hDV, hDC, ⟨?_, ?_, ?_⟩, BeC_forget hf⟩, fun x hx => ?_⟩
      · show 1 ≤ (if i = n then v else w i) ∧ (if i = n then v else w i) ≤ 9
        by_cases hin : i = n
        · rw [if_pos hin]; exact ⟨hv1, hv⟩
        · rw [if_neg hin]; exact g4 i (by omega)
      · have := g7 c hc
        unfold notchN at this ⊢
        split at this <;> split <;> omega
      · show upd worths n (nI v) i = nI (if i = n then v else w i)
        by_cases hin : i = n
        · subst hin; rw [pk_us, if_pos rfl]
        · rw [pk_un hin, if_neg hin]; exact c4 i (by omega)
      · show upd ahead (n + 1) (nI (pre w n + v)) i = nI (pre (fun i => if i = n then v else w i) i)
        by_cases hin : i = n + 1
        · subst hin
          rw [pk_us]
          show nI (pre w n + v) = nI (pre (fun i => if i = n then v else w i) n + (if n = n then v else w n))
          rw [if_pos rfl, pre_congr (w := w) (w' := fun i => if i = n then v else w i) n (fun i hi => (if_neg (show ¬ i = n by omega)).symm)]
        · rw [pk_un hin, c5 i (by omega), pre_congr (w := w) (w' := fun i => if i = n then v else w i) i (fun j hj => (if_neg (show ¬ j = n by omega)).symm)]
      · show upd (upd mw (2 + n) (nI v)) 1 (nI (n + 1)) 0 = _
        rw [pk_un (by decide), pk_un (by omega)]; exact m1
      · show upd (upd mw (2 + n) (nI v)) 1 (nI (n + 1)) 1 = _
        rw [pk_us]
      · show upd (upd mw (2 + n) (nI v)) 1 (nI (n + 1)) (0 + 2 + i) = nI (if i = n then v else w i)
        rw [pk_un (by omega)]
        by_cases hin : i = n
        · subst hin; rw [if_pos rfl, show 0 + 2 + i = 2 + i by omega, pk_us]
        · rw [if_neg hin, pk_un (by omega)]; exact m3 i (by omega)
      · show upd (upd mw (2 + n) (nI v)) 1 (nI (n + 1)) 26 = _
        rw [pk_un (by decide), pk_un (by omega)]; exact m4
      · show upd (upd mw (2 + n) (nI v)) 1 (nI (n + 1)) 27 = _
        rw [pk_un (by decide), pk_un (by omega)]; exact d1
      · show upd (upd mw (2 + n) (nI v)) 1 (nI (n + 1)) 28 = _
        rw [pk_un (by decide), pk_un (by omega)]; exact d2
      · show upd (upd mw (2 + n) (nI v)) 1 (nI (n + 1)) 29 = _
        rw [pk_un (by decide), pk_un (by omega)]; exact d3
      · show upd (upd mw (2 + n) (nI v)) 1 (nI (n + 1)) x = _
        rw [pk_un (by omega), pk_un (by omega)]
    · have e24 : n = 24 := by omega
      subst e24
      rw [if_neg (show ¬ nI 24 < (24 : Int32) by decide), if_pos (show nI 24 = (24 : Int32) from rfl)]
      rw [← c2]
      exact ⟨_, _, rfl, rfl, rfl, hC', fun _ _ => rfl⟩
  · rw [if_neg h0]
    exact ⟨_, _, rfl, rfl, rfl, hC, fun _ _ => rfl⟩
