/-! bits; worth, rate, due -/
theorem smod32 : ∀ b, b < 32 → ((nI b).toBitVec.smod 32).toNat = b := by decide +kernel
theorem shr_n {o b : Nat} (ho : o < 2 ^ 31) (hb : b < 32) : nI o >>> (nI b &&& 31) = nI (o / 2 ^ b) := by
  rw [show nI b &&& (31 : Int32) = nI (b % 2 ^ 5) from pk_andN (by omega) 5 (by decide), Nat.mod_eq_of_lt (show b < 2 ^ 5 by omega)]
  exact pk_shrN ho _ b (smod32 b hb)
theorem has_ok {o b : Nat} (ho : o < 2 ^ 31) (hb : b < 32) : f_X11_has (nI o) (nI b) = some (if o.testBit b = true then 1 else 0) := by
  unfold f_X11_has B_X11_has_14
  have hlt : o / 2 ^ b < 2 ^ 31 := Nat.lt_of_le_of_lt (Nat.div_le_self _ _) ho
  rw [shr_n ho hb, show nI (o / 2 ^ b) &&& (1 : Int32) = nI (o / 2 ^ b % 2 ^ 1) from pk_andN (by omega) 1 (by decide)]
  have ht : o.testBit b = decide (o / 2 ^ b % 2 = 1) := Nat.testBit_eq_decide_div_mod_eq
  by_cases h : o / 2 ^ b % 2 = 1
  · rw [if_pos (show nI (o / 2 ^ b % 2 ^ 1) = (1 : Int32) by rw [show o / 2 ^ b % 2 ^ 1 = 1 from h]; rfl), if_pos (by rw [ht]; exact decide_eq_true h)]
    exact ob_t zb1 _
  · have h0 : o / 2 ^ b % 2 = 0 := by omega
    rw [if_neg (show ¬ nI (o / 2 ^ b % 2 ^ 1) = (1 : Int32) by rw [show o / 2 ^ b % 2 ^ 1 = 0 from h0]; decide), if_neg (by rw [ht]; simp [h])]
    exact ob_t zb0 _
theorem value_ok {n i v : Nat} (hi : i < n) (hn : n ≤ 24) {w : Nat → Nat} {worths ahead : Nat → Int32} (c4 : ∀ i, i < n → worths i = nI (w i)) (c5 : ∀ i, i ≤ n → ahead i = nI (pre w i)) : ∃ f : Nat → Int32, f_X1_value (nI n) worths ahead (nI i) (nI v) = some (upd worths i (nI v), f) ∧ ∀ j, j ≤ n → f j = nI (pre (fun x => if x = i then v else w x) j) := by
  unfold f_X1_value L_X1_value_9 B_X1_value_44
  rw [ob_t (inb_nI (by omega) (by decide)), nI_clamp (by omega)]
  refine fixN_post _ (fun t : Int32 × (Nat → Int32) => ∃ j, i ≤ j ∧ j ≤ n ∧ t.1 = nI j ∧ ∀ x, x ≤ j → t.2 x = nI (pre (fun x => if x = i then v else w x) x)) (fun t => 24 - t.1.toNatClampNeg) (fun _ o => ∃ f : Nat → Int32, o = some (upd worths i (nI v), f) ∧ ∀ j, j ≤ n → f j = nI (pre (fun x => if x = i then v else w x) j)) ?_ FUEL (nI i, ahead) ⟨i, Nat.le_refl _, by omega, rfl, fun x hx => ?_⟩ (fuel_lt (by show 24 - _ < _; omega))
  · rintro rec ⟨u, f⟩ ⟨j, h1, h2, hv, hf⟩ hrec
    dsimp only at hv hf
    subst hv
    show ∃ f', LB_X1_value_9 _ _ _ rec (nI j) f = some (_, f') ∧ _
    unfold LB_X1_value_9
    by_cases hj : n ≤ j
    · have : j = n := by omega
      subst this
      rw [if_pos (Int32.le_refl _)]
      exact ⟨f, rfl, hf⟩
    · rw [if_neg (nI_ge (by omega) (by omega)), ob_t (inb_nI (by omega) (by decide)), ob_t (inb_nI (by omega) (by decide)), nI_1, ob_t (inb_nI (by omega) (by decide)), nI_clamp (by omega), nI_clamp (by omega), hf j (Nat.le_refl _)]
      have ew : upd worths i (nI v) j = nI ((fun x => if x = i then v else w x) j) := by
        by_cases hji : j = i
        · subst hji; rw [pk_us]; show _ = nI (if j = j then v else w j); rw [if_pos rfl]
        · rw [pk_un hji, c4 j (by omega)]; show _ = nI (if j = i then v else w j); rw [if_neg hji]
      rw [ew, nI_add]
      refine hrec (nI (j + 1), _) ⟨j + 1, by omega, by omega, rfl, fun x hx => ?_⟩ (by show 24 - (nI (j + 1)).toNatClampNeg < 24 - (nI j).toNatClampNeg; rw [nI_clamp (by omega), nI_clamp (by omega)]; omega)
      show upd f (j + 1) _ x = _
      by_cases hxj : x = j + 1
      · subst hxj; rw [pk_us]; rfl
      · rw [pk_un hxj]; exact hf x (by omega)
  · show ahead x = _
    rw [c5 x (by omega), pre_congr (w := w) (w' := fun x => if x = i then v else w x) x (fun y hy => (if_neg (show ¬ y = i by omega)).symm)]
theorem c_worth {kind links cutCount : Int32} {worths ahead cuts : Nat → Int32} {each offc twice : Int32} {dues known far : Nat → Int32} {rows : Nat → Nat → Int32} {mw : Nat → Int32} (hC : RelC kind links cutCount worths ahead cuts each offc twice dues known far rows mw) (p0 p1 : Int32) : ∃ (rx : Int32 × (Nat → Int32) × (Nat → Int32) × (Nat → Int32)) (ry : Int32 × (Nat → Int32)), f_X10_worth links worths ahead known p0 p1 = some rx ∧ f_X11_worth mw p0 p1 = some ry ∧ rx.1 = ry.1 ∧ RelC kind links cutCount rx.2.1 rx.2.2.1 cuts each offc twice dues rx.2.2.2 far rows ry.2 ∧ ∀ x, 30 ≤ x → ry.2 x = mw x := by
  have hC' := hC
  obtain ⟨kd, n, w, cs, r, off, dbl, ⟨g1, g2, g3, g4, g5, g6, g7⟩, ⟨c1, c2, c3, c4, c5, c6⟩, ⟨m1, m2, m3, m4⟩, hDV, hDC, ⟨d1, d2, d3⟩, hB⟩ := hC
  unfold f_X10_worth f_X11_worth B_X10_worth_27 B_X11_worth_30
  have em1 : mw (1 : Int32).toNatClampNeg = nI n := m2
  have en : nI n - (1 : Int32) = nI (n - 1) := pk_sub g2
  rw [ob_t (show inb (1 : Int32) 60 = true by decide), em1, c2, en, within_ok, within_ok, in_lit p0 0 (nI (n - 1)) (by decide) rfl, in_lit p1 1 9 (by decide) (by decide)]
  have bad : ∃ (rx : Int32 × (Nat → Int32) × (Nat → Int32) × (Nat → Int32)) (ry : Int32 × (Nat → Int32)), some ((-1 : Int32), worths, ahead, known) = some rx ∧ some ((-1 : Int32), mw) = some ry ∧ rx.1 = ry.1 ∧ RelC kind (nI n) cutCount rx.2.1 rx.2.2.1 cuts each offc twice dues rx.2.2.2 far rows ry.2 ∧ ∀ x, 30 ≤ x → ry.2 x = mw x := ⟨_, _, rfl, rfl, rfl, by rw [← c2]; exact hC', fun _ _ => rfl⟩
  by_cases h0 : (0 : Int32) ≤ p0 ∧ p0 ≤ nI (n - 1)
  · by_cases h1 : (1 : Int32) ≤ p1 ∧ p1 ≤ 9
    · rw [if_pos h0, if_pos h1]
      simp only [Option.bind_some]
      rw [if_neg (show ¬ (1 : Int32) = 0 by decide), if_neg (show ¬ (1 : Int32) = 0 by decide), if_neg (show ¬ (1 : Int32) = 0 by decide), if_neg (show ¬ (1 : Int32) = 0 by decide)]
      obtain ⟨i, hi, rfl⟩ := nat_of (N := n - 1) (M := nI (n - 1)) (nI_toInt (by omega)) h0
      obtain ⟨v, hv, rfl⟩ := nat_of (N := 9) (M := 9) (by decide) ⟨Int32.le_trans (by decide) h1.1, h1.2⟩
      have hv1 : 1 ≤ v := (nI_leI (a := 1) (b := v) (by decide) (by omega)).mp h1.1
      obtain ⟨a, ea, ha⟩ := value_ok (v := v) (show i < n by omega) g3 c4 c5
      obtain ⟨f, ef, hf⟩ := forget_ok known
      rw [ob_t (inb_nI (by omega) (by decide)), ea, ef, show (2 : Int32) + nI i = nI (2 + i) from nI_add 2 i, ob_t (inb_nI (by omega) (by decide)), ob_t (inb_nI (by omega) (by decide)), nI_clamp (by omega), nI_clamp (by omega)]
      refine ⟨_, _, rfl, rfl, ?_, ⟨kd, n, fun x => if x = i then v else w x, cs, r, off, dbl, ⟨g1, g2, g3, fun j hj => ?_, g5, g6, g7⟩, ⟨c1, rfl, c3, fun j hj => ?_, ha, c6⟩, ⟨?_, ?_, fun j hj => ?_, ?_⟩, hDV, hDC, ⟨?_, ?_, ?_⟩, BeC_forget hf⟩, fun x hx => ?_⟩
      · show worths i = mw (2 + i)
        rw [c4 i (by omega), show 2 + i = 0 + 2 + i by omega, m3 i (by omega)]
      · show 1 ≤ (if j = i then v else w j) ∧ (if j = i then v else w j) ≤ 9
        by_cases hji : j = i
        · rw [if_pos hji]; exact ⟨hv1, hv⟩
        · rw [if_neg hji]; exact g4 j hj
      · show upd worths i (nI v) j = nI (if j = i then v else w j)
        by_cases hji : j = i
        · subst hji; rw [pk_us, if_pos rfl]
        · rw [pk_un hji, if_neg hji]; exact c4 j hj
      · show upd mw (2 + i) (nI v) 0 = _
        rw [pk_un (by omega)]; exact m1
      · show upd mw (2 + i) (nI v) 1 = _
        rw [pk_un (by omega)]; exact m2
      · show upd mw (2 + i) (nI v) (0 + 2 + j) = nI (if j = i then v else w j)
        by_cases hji : j = i
        · subst hji; rw [show 0 + 2 + j = 2 + j by omega, pk_us, if_pos rfl]
        · rw [pk_un (by omega), if_neg hji]; exact m3 j hj
      · show upd mw (2 + i) (nI v) 26 = _
        rw [pk_un (by omega)]; exact m4
      · show upd mw (2 + i) (nI v) 27 = _
        rw [pk_un (by omega)]; exact d1
      · show upd mw (2 + i) (nI v) 28 = _
        rw [pk_un (by omega)]; exact d2
      · show upd mw (2 + i) (nI v) 29 = _
        rw [pk_un (by omega)]; exact d3
      · show upd mw (2 + i) (nI v) x = _
        rw [pk_un (by omega)]
    · rw [if_pos h0, if_neg h1]
      simp only [Option.bind_some]
      rw [if_neg (show ¬ (1 : Int32) = 0 by decide), if_neg (show ¬ (1 : Int32) = 0 by decide), if_pos trivial, if_pos trivial]
      exact bad
  · rw [if_neg h0]
    simp only [Option.bind_some]
    rw [if_pos trivial, if_pos trivial]
    exact bad
theorem layDues_ok {r off dbl : Nat} (hV : DaV r off dbl) {mw : Nat → Int32} (hM : DaM r off dbl 0 mw) (dues : Nat → Int32) : ∃ rd, f_X11_layDues dues mw = some rd ∧ ∀ d, d ≤ 60 → rd d = nI (dueF r off dbl d) := by
  obtain ⟨hr1, hr2, ho, hd⟩ := hV
  obtain ⟨m1, m2, m3⟩ := hM
  unfold f_X11_layDues L_X11_layDues_9
  rw [ob_t (by decide)]
  refine fixN_post _ (fun t : Int32 × (Nat → Int32) => ∃ j, 1 ≤ j ∧ j ≤ 61 ∧ t.1 = nI j ∧ ∀ d, d < j → t.2 d = nI (dueF r off dbl d)) (fun t => 61 - t.1.toNatClampNeg) (fun _ o => ∃ rd : Nat → Int32, o = some rd ∧ ∀ d, d ≤ 60 → rd d = nI (dueF r off dbl d)) ?_ FUEL ((1 : Int32), _) ⟨1, by decide, by decide, rfl, fun d hd => ?_⟩ (fuel_lt (by show 61 - _ < _; omega))
  · rintro rec ⟨v, f⟩ ⟨j, h1, h2, hv, hf⟩ hrec
    dsimp only at hv hf
    subst hv
    show ∃ rd, LB_X11_layDues_9 _ _ rec (nI j) f = some rd ∧ _
    unfold LB_X11_layDues_9
    by_cases hj : 60 < j
    · rw [if_pos (show (60 : Int32) < nI j from nI_lt hj (by omega))]
      exact ⟨f, rfl, fun d hd => hf d (by omega)⟩
    · rw [if_neg (show ¬ (60 : Int32) < nI j from nI_nlt (a := 60) (b := j) (by omega) (by decide))]
      have e1 : nI j - (1 : Int32) = nI (j - 1) := pk_sub h1
      have e2 : nI (j - 1) - nI (j - 1) / (7 : Int32) * (7 : Int32) = nI ((j - 1) % 7) := pk_rem (by omega) (by decide) (by decide)
      have hb7 : (j - 1) % 7 < 7 := Nat.mod_lt _ (by decide)
      have w27 : mw (27 : Int32).toNatClampNeg = nI r := m1
      have w28 : mw (28 : Int32).toNatClampNeg = nI off := m2
      have w29 : mw (29 : Int32).toNatClampNeg = nI dbl := m3
      rw [e1, e2, ob_t (show inb (28 : Int32) 60 = true by decide), ob_t (show inb (29 : Int32) 60 = true by decide), ob_t (show inb (27 : Int32) 60 = true by decide), ob_t (show inb (27 : Int32) 60 = true by decide), w27, w28, w29, has_ok (by omega) (by omega), has_ok (by omega) (by omega)]
      have ed : dueF r off dbl j = dueF r off dbl (j - 1) + (if off.testBit ((j - 1) % 7) then 0 else if dbl.testBit ((j - 1) % 7) then 2 * r else r) := by
        obtain ⟨i, rfl⟩ : ∃ i, j = i + 1 := ⟨j - 1, by omega⟩
        rfl
      have tail : ∀ x : Nat, dueF r off dbl j = dueF r off dbl (j - 1) + x → ∃ rd, B_X11_layDues_73 (fun t => B_X11_layDues_96 t.2) rec f (nI j) (nI x) = some rd ∧ ∀ d, d ≤ 60 → rd d = nI (dueF r off dbl d) := by
        intro x hx
        unfold B_X11_layDues_73
        rw [e1, ob_t (inb_nI (by omega) (by decide)), ob_t (inb_nI (by omega) (by decide)), nI_clamp (by omega), nI_clamp (by omega), hf _ (by omega), nI_add, nI_1, ← hx]
        refine hrec (nI (j + 1), _) ⟨j + 1, by omega, by omega, rfl, fun d hd => ?_⟩ (by show 61 - (nI (j + 1)).toNatClampNeg < 61 - (nI j).toNatClampNeg; rw [nI_clamp (by omega), nI_clamp (by omega)]; omega)
        show upd f j _ d = _
        by_cases hdj : d = j
        · subst hdj; rw [pk_us]
        · rw [pk_un hdj]; exact hf d (by omega)
      by_cases b1 : off.testBit ((j - 1) % 7) = true
      · rw [if_pos b1]
        simp only [Option.bind_some]
        rw [if_neg (show ¬ (1 : Int32) = 0 by decide)]
        exact tail 0 (by rw [ed, if_pos b1])
      · rw [if_neg b1]
        simp only [Option.bind_some]
        rw [if_pos trivial]
        by_cases b2 : dbl.testBit ((j - 1) % 7) = true
        · rw [if_pos b2, if_neg (show ¬ (1 : Int32) = 0 by decide), show (2 : Int32) * nI r = nI (2 * r) from pk_mul 2 r]
          exact tail (2 * r) (by rw [ed, if_neg b1, if_pos b2])
        · rw [if_neg b2, if_pos (rfl : (0 : Int32) = 0)]
          exact tail r (by rw [ed, if_neg b1, if_neg b2])
  · have : d = 0 := by omega
    subst this
    show upd dues (0 : Int32).toNatClampNeg 0 0 = _
    rfl
theorem c_due {kind links cutCount : Int32} {worths ahead cuts : Nat → Int32} {each offc twice : Int32} {dues known far : Nat → Int32} {rows : Nat → Nat → Int32} {mw : Nat → Int32} (hC : RelC kind links cutCount worths ahead cuts each offc twice dues known far rows mw) (md : Nat → Int32) (p0 : Int32) : ∃ (rx : Int32) (ry : Int32 × (Nat → Int32)), f_X10_due dues p0 = some rx ∧ f_X11_due md mw p0 = some ry ∧ rx = ry.1 := by
  obtain ⟨kd, n, w, cs, r, off, dbl, -, -, -, hDV, ⟨e1, e2, e3, e4⟩, hDM, -⟩ := hC
  unfold f_X10_due f_X11_due B_X10_due_23
  rw [within_ok, in_lit p0 1 60 (by decide) (by decide)]
  by_cases h0 : (1 : Int32) ≤ p0 ∧ p0 ≤ 60
  · rw [if_pos h0]
    simp only [Option.bind_some]
    rw [if_neg (show ¬ (1 : Int32) = 0 by decide), if_neg (show ¬ (1 : Int32) = 0 by decide)]
    obtain ⟨rd, er, hr⟩ := layDues_ok hDV hDM md
    obtain ⟨v, hv, rfl⟩ := nat_of (N := 60) (M := 60) (by decide) ⟨Int32.le_trans (by decide) h0.1, h0.2⟩
    rw [er]
    simp only [Option.bind_some]
    rw [ob_t (inb_nI (by omega) (by decide)), ob_t (inb_nI (by omega) (by decide)), nI_clamp (by omega)]
    exact ⟨_, _, rfl, rfl, by show dues v = rd v; rw [e4 v hv, hr v hv]⟩
  · rw [if_neg h0]
    exact ⟨_, _, rfl, rfl, rfl⟩
