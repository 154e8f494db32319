/-! rate, image, restore -/
theorem RelC_congr {kind links cutCount : Int32} {worths ahead cuts : Nat → Int32} {each offc twice : Int32} {dues known far : Nat → Int32} {rows : Nat → Nat → Int32} {w w' : Nat → Int32} (hw : ∀ x, x < 30 → w' x = w x) (hC : RelC kind links cutCount worths ahead cuts each offc twice dues known far rows w) : RelC kind links cutCount worths ahead cuts each offc twice dues known far rows w' := by
  obtain ⟨kd, n, wo, cs, r, off, dbl, g1, g2, ⟨m1, m2, m3, m4⟩, g4, g5, ⟨d1, d2, d3⟩, hB⟩ := hC
  have hn := g1.2.2.1
  exact ⟨kd, n, wo, cs, r, off, dbl, g1, g2, ⟨by rw [hw _ (by omega)]; exact m1, by rw [hw _ (by omega)]; exact m2, fun x hx => by rw [hw _ (by omega)]; exact m3 x hx, by rw [hw _ (by omega)]; exact m4⟩, g4, g5, ⟨by rw [hw _ (by omega)]; exact d1, by rw [hw _ (by omega)]; exact d2, by rw [hw _ (by omega)]; exact d3⟩, hB⟩
theorem c_rate {kind links cutCount : Int32} {worths ahead cuts : Nat → Int32} {each offc twice : Int32} {dues known far : Nat → Int32} {rows : Nat → Nat → Int32} {mw : Nat → Int32} (hC : RelC kind links cutCount worths ahead cuts each offc twice dues known far rows mw) (p0 p1 : Int32) : ∃ (rx : Int32 × (Nat → Int32) × Int32 × Int32 × Int32 × (Nat → Int32)) (ry : Int32 × (Nat → Int32)), f_X10_rate known each offc twice dues p0 p1 = some rx ∧ f_X11_rate mw p0 p1 = some ry ∧ rx.1 = ry.1 ∧ RelC kind links cutCount worths ahead cuts rx.2.2.1 rx.2.2.2.1 rx.2.2.2.2.1 rx.2.2.2.2.2 rx.2.1 far rows ry.2 ∧ ∀ x, 30 ≤ x → ry.2 x = mw x := by
  have bad : ∃ (rx : Int32 × (Nat → Int32) × Int32 × Int32 × Int32 × (Nat → Int32)) (ry : Int32 × (Nat → Int32)), some ((-1 : Int32), known, each, offc, twice, dues) = some rx ∧ some ((-1 : Int32), mw) = some ry ∧ rx.1 = ry.1 ∧ RelC kind links cutCount worths ahead cuts rx.2.2.1 rx.2.2.2.1 rx.2.2.2.2.1 rx.2.2.2.2.2 rx.2.1 far rows ry.2 ∧ ∀ x, 30 ≤ x → ry.2 x = mw x := ⟨_, _, rfl, rfl, rfl, hC, fun _ _ => rfl⟩
  obtain ⟨kd, n, w, cs, r, off, dbl, hV, hCC, ⟨m1, m2, m3, m4⟩, ⟨hr1, hr2, ho, hd⟩, ⟨e1, e2, e3, e4⟩, ⟨d1, d2, d3⟩, hB⟩ := hC
  have hn := hV.2.2.1
  have d0 : dues 0 = 0 := by rw [e4 0 (by decide)]; rfl
  obtain ⟨f, ef, hf⟩ := forget_ok known
  unfold f_X10_rate f_X11_rate B_X10_rate_19 B_X10_rate_30 B_X10_rate_36 B_X11_rate_44 B_X11_rate_45
  rw [within_ok, within_ok, within_ok, in_lit p1 1 9 (by decide) (by decide), in_lit p0 1 2 (by decide) (by decide), in_lit p1 0 127 (by decide) (by decide)]
  by_cases h0 : (0 : Int32) ≤ p0 ∧ p0 ≤ 2
  · rw [if_pos h0]
    obtain ⟨j, hj, rfl⟩ := nat_of (N := 2) (M := 2) (by decide) h0
    simp only [Option.bind_some]
    rw [if_neg (show ¬ (1 : Int32) = 0 by decide)]
    by_cases hj0 : j = 0
    · subst hj0
      rw [if_pos (show nI 0 = (0 : Int32) from rfl), if_pos (show nI 0 = (0 : Int32) from rfl), if_pos (show nI 0 = (0 : Int32) from rfl)]
      by_cases h1 : (1 : Int32) ≤ p1 ∧ p1 ≤ 9
      · rw [if_pos h1, if_neg (show ¬ (1 : Int32) = 0 by decide), if_neg (show ¬ (1 : Int32) = 0 by decide), ef]
        obtain ⟨v, hv, rfl⟩ := nat_of (N := 9) (M := 9) (by decide) ⟨Int32.le_trans (by decide) h1.1, h1.2⟩
        have hv1 : 1 ≤ v := (nI_leI (a := 1) (b := v) (by decide) (by omega)).mp h1.1
        have hV2 : DaV v off dbl := ⟨hv1, hv, ho, hd⟩
        obtain ⟨rd, er, hrd⟩ := reckon_ok hV2 d0
        unfold f_X3_set B_X3_set_27 B_X3_set_58
        rw [if_pos (show nI 0 = (0 : Int32) from rfl), e2, e3, if_pos (show nI 0 = (0 : Int32) from rfl), er]
        simp only [Option.bind_some]
        rw [show (27 : Int32) + nI 0 = nI 27 from rfl, ob_t (by decide), ob_t (by decide), nI_clamp (by decide)]
        refine ⟨_, _, rfl, rfl, ?_, ⟨kd, n, w, cs, v, off, dbl, hV, hCC, ⟨?_, ?_, fun x hx => ?_, ?_⟩, hV2, ⟨rfl, rfl, rfl, hrd⟩, ⟨?_, ?_, ?_⟩, BeC_forget hf⟩, fun x hx => ?_⟩
        · show each = mw 27
          rw [e1, ← d1]
        · show upd mw 27 (nI v) 0 = _; rw [pk_un (by decide)]; exact m1
        · show upd mw 27 (nI v) 1 = _; rw [pk_un (by decide)]; exact m2
        · show upd mw 27 (nI v) (0 + 2 + x) = _; rw [pk_un (by omega)]; exact m3 x hx
        · show upd mw 27 (nI v) 26 = _; rw [pk_un (by decide)]; exact m4
        · show upd mw 27 (nI v) 27 = _; rw [pk_us]
        · show upd mw 27 (nI v) 28 = _; rw [pk_un (by decide)]; exact d2
        · show upd mw 27 (nI v) 29 = _; rw [pk_un (by decide)]; exact d3
        · show upd mw 27 (nI v) x = _; rw [pk_un (by omega)]
      · rw [if_neg h1, if_pos (rfl : (0 : Int32) = 0), if_pos (rfl : (0 : Int32) = 0)]
        exact bad
    · have n0 : ¬ nI j = (0 : Int32) := nI_ne0 (by omega) (by omega)
      have h12 : (1 : Int32) ≤ nI j ∧ nI j ≤ 2 := ⟨nI_le (a := 1) (b := j) (by omega) (by omega), h0.2⟩
      rw [if_neg n0, if_neg n0, if_neg n0, if_pos h12, if_neg (show ¬ (1 : Int32) = 0 by decide), within_ok]
      by_cases h1 : (0 : Int32) ≤ p1 ∧ p1 ≤ 127
      · rw [if_pos h1, if_neg (show ¬ (1 : Int32) = 0 by decide), if_neg (show ¬ (1 : Int32) = 0 by decide), ef]
        obtain ⟨v, hv, rfl⟩ := nat_of (N := 127) (M := 127) (by decide) h1
        rw [Option.bind_some, if_neg (show ¬ (1 : Int32) = 0 by decide)]
        unfold f_X3_set B_X3_set_27 B_X3_set_58
        by_cases hj1 : j = 1
        · subst hj1
          have hV2 : DaV r v dbl := ⟨hr1, hr2, by omega, hd⟩
          obtain ⟨rd, er, hrd⟩ := reckon_ok hV2 d0
          rw [if_neg n0, if_pos (show nI 1 = (1 : Int32) from rfl), if_neg n0, if_pos (show nI 1 = (1 : Int32) from rfl), e1, e3, er]
          simp only [Option.bind_some]
          rw [show (27 : Int32) + nI 1 = nI 28 from rfl, ob_t (by decide), ob_t (by decide), nI_clamp (by decide)]
          refine ⟨_, _, rfl, rfl, ?_, ⟨kd, n, w, cs, r, v, dbl, hV, hCC, ⟨?_, ?_, fun x hx => ?_, ?_⟩, hV2, ⟨rfl, rfl, rfl, hrd⟩, ⟨?_, ?_, ?_⟩, BeC_forget hf⟩, fun x hx => ?_⟩
          · show offc = mw 28
            rw [e2, ← d2]
          · show upd mw 28 (nI v) 0 = _; rw [pk_un (by decide)]; exact m1
          · show upd mw 28 (nI v) 1 = _; rw [pk_un (by decide)]; exact m2
          · show upd mw 28 (nI v) (0 + 2 + x) = _; rw [pk_un (by omega)]; exact m3 x hx
          · show upd mw 28 (nI v) 26 = _; rw [pk_un (by decide)]; exact m4
          · show upd mw 28 (nI v) 27 = _; rw [pk_un (by decide)]; exact d1
          · show upd mw 28 (nI v) 28 = _; rw [pk_us]
          · show upd mw 28 (nI v) 29 = _; rw [pk_un (by decide)]; exact d3
          · show upd mw 28 (nI v) x = _; rw [pk_un (by omega)]
        · have hj2 : j = 2 := by omega
          subst hj2
          have hV2 : DaV r off v := ⟨hr1, hr2, ho, by omega⟩
          obtain ⟨rd, er, hrd⟩ := reckon_ok hV2 d0
          have n1 : ¬ nI 2 = (1 : Int32) := by decide
          rw [if_neg n0, if_neg n1, if_neg n0, if_neg n1, e1, e2, er]
          simp only [Option.bind_some]
          rw [show (27 : Int32) + nI 2 = nI 29 from rfl, ob_t (by decide), ob_t (by decide), nI_clamp (by decide)]
          refine ⟨_, _, rfl, rfl, ?_, ⟨kd, n, w, cs, r, off, v, hV, hCC, ⟨?_, ?_, fun x hx => ?_, ?_⟩, hV2, ⟨rfl, rfl, rfl, hrd⟩, ⟨?_, ?_, ?_⟩, BeC_forget hf⟩, fun x hx => ?_⟩
          · show twice = mw 29
            rw [e3, ← d3]
          · show upd mw 29 (nI v) 0 = _; rw [pk_un (by decide)]; exact m1
          · show upd mw 29 (nI v) 1 = _; rw [pk_un (by decide)]; exact m2
          · show upd mw 29 (nI v) (0 + 2 + x) = _; rw [pk_un (by omega)]; exact m3 x hx
          · show upd mw 29 (nI v) 26 = _; rw [pk_un (by decide)]; exact m4
          · show upd mw 29 (nI v) 27 = _; rw [pk_un (by decide)]; exact d1
          · show upd mw 29 (nI v) 28 = _; rw [pk_un (by decide)]; exact d2
          · show upd mw 29 (nI v) 29 = _; rw [pk_us]
          · show upd mw 29 (nI v) x = _; rw [pk_un (by omega)]
      · rw [if_neg h1]
        simp only [Option.bind_some]
        exact bad
  · have n0 : ¬ p0 = 0 := fun z => h0 (by rw [z]; decide)
    have n12 : ¬ ((1 : Int32) ≤ p0 ∧ p0 ≤ 2) := fun z => h0 ⟨Int32.le_trans (by decide) z.1, z.2⟩
    rw [if_neg h0, if_neg n12]
    simp only [Option.bind_some, if_neg n0]
    exact bad
theorem take_ok (a b c : Nat → Int32) (k l m : Int32) (d e f : Nat → Int32) : f_X1_take a b c k l m d e f = some (k, l, m, va_cpy d a 0 0 24, va_cpy e b 0 0 25, va_cpy f c 0 0 5) := by
  unfold f_X1_take
  rw [ob_t (by decide), ob_t (by decide), ob_t (by decide)]
  rfl
theorem takeD_ok (a : Nat → Int32) (x y z : Int32) (d : Nat → Int32) : f_X3_take a x y z d = some (x, y, z, va_cpy d a 0 0 61) := by
  unfold f_X3_take
  rw [ob_t (by decide)]
  rfl
theorem cpy0 {f g : Nat → Int32} {n j : Nat} (h : j < n) : va_cpy f g 0 0 n j = f j := by
  rw [pk_cpy_in (Nat.zero_le _) (by omega)]
  congr 1
  omega
theorem ChC_take {kd n : Nat} {w : Nat → Nat} {cs : List Nat} (hV : ChV kd n w cs) {kind links cutCount : Int32} {worths ahead cuts a b c : Nat → Int32} (h : ChC kd n w cs kind links cutCount worths ahead cuts) : ChC kd n w cs kind links cutCount (va_cpy worths a 0 0 24) (va_cpy ahead b 0 0 25) (va_cpy cuts c 0 0 5) := by
  obtain ⟨h1, h2, h3, h4, h5, h6⟩ := h
  obtain ⟨g1, g2, g3, g4, g5, -⟩ := hV
  exact ⟨h1, h2, h3, fun i hi => by rw [cpy0 (by omega)]; exact h4 i hi, fun i hi => by rw [cpy0 (by omega)]; exact h5 i hi, fun i hi => by rw [cpy0 (by omega)]; exact h6 i hi⟩
theorem DaC_take {r off dbl : Nat} {each offc twice : Int32} {dues a : Nat → Int32} (h : DaC r off dbl each offc twice dues) : DaC r off dbl each offc twice (va_cpy dues a 0 0 61) := by
  obtain ⟨h1, h2, h3, h4⟩ := h
  exact ⟨h1, h2, h3, fun d hd => by rw [cpy0 (by omega)]; exact h4 d hd⟩
theorem imageM_ok (mw : Nat → Int32) : ∃ f, f_X11_image mw = some (1, 1, f) ∧ (∀ i, i < 30 → f i = mw i) ∧ ∀ i, i < 30 → f (30 + i) = mw i := by
  unfold f_X11_image L_X11_image_2
  refine fixN_post _ (fun t : Int32 × (Nat → Int32) => ∃ j, j ≤ 30 ∧ t.1 = nI j ∧ (∀ i, i < 30 → t.2 i = mw i) ∧ ∀ i, i < j → t.2 (30 + i) = mw i) (fun t => 30 - t.1.toNatClampNeg) (fun _ o => ∃ f : Nat → Int32, o = some (1, 1, f) ∧ (∀ i, i < 30 → f i = mw i) ∧ ∀ i, i < 30 → f (30 + i) = mw i) ?_ FUEL ((0 : Int32), mw) ⟨0, by decide, rfl, fun _ _ => rfl, fun i hi => absurd hi (by omega)⟩ (fuel_lt (by show 30 - _ < _; omega))
  rintro rec ⟨v, f⟩ ⟨j, h1, hv, hf, hg⟩ hrec
  dsimp only at hv hf hg
  subst hv
  show ∃ f', LB_X11_image_2 _ rec (nI j) f = some (1, 1, f') ∧ _
  unfold LB_X11_image_2
  by_cases hj : 30 ≤ j
  · rw [if_pos (show (30 : Int32) ≤ nI j from nI_le hj (by omega))]
    exact ⟨f, rfl, hf, fun i hi => hg i (by omega)⟩
  · rw [if_neg (show ¬ (30 : Int32) ≤ nI j from nI_ge (a := j) (b := 30) (by omega) (by decide)), ob_t (inb_nI (by omega) (by decide)), show (30 : Int32) + nI j = nI (30 + j) from nI_add 30 j, ob_t (inb_nI (by omega) (by decide)), nI_clamp (by omega), nI_clamp (by omega), nI_1, hf j (by omega)]
    refine hrec (nI (j + 1), _) ⟨j + 1, by omega, rfl, fun i hi => ?_, fun i hi => ?_⟩ (by show 30 - (nI (j + 1)).toNatClampNeg < 30 - (nI j).toNatClampNeg; rw [nI_clamp (by omega), nI_clamp (by omega)]; omega)
    · show upd f (30 + j) _ i = _
      rw [pk_un (by omega)]; exact hf i hi
    · show upd f (30 + j) _ (30 + i) = _
      by_cases hij : i = j
      · subst hij; rw [pk_us]
      · rw [pk_un (by omega)]; exact hg i (by omega)
theorem restoreM_ok (mw : Nat → Int32) : ∃ f, L_X11_restore_12 (fun t => B_X11_restore_39 t.2) FUEL ((0 : Int32), mw) = some (1, f) ∧ (∀ i, i < 30 → f i = mw (30 + i)) ∧ ∀ i, 30 ≤ i → f i = mw i := by
  unfold L_X11_restore_12
  refine fixN_post _ (fun t : Int32 × (Nat → Int32) => ∃ j, j ≤ 30 ∧ t.1 = nI j ∧ (∀ i, i < j → t.2 i = mw (30 + i)) ∧ ∀ i, 30 ≤ i → t.2 i = mw i) (fun t => 30 - t.1.toNatClampNeg) (fun _ o => ∃ f : Nat → Int32, o = some (1, f) ∧ (∀ i, i < 30 → f i = mw (30 + i)) ∧ ∀ i, 30 ≤ i → f i = mw i) ?_ FUEL ((0 : Int32), mw) ⟨0, by decide, rfl, fun i hi => absurd hi (by omega), fun _ _ => rfl⟩ (fuel_lt (by show 30 - _ < _; omega))
  rintro rec ⟨v, f⟩ ⟨j, h1, hv, hf, hg⟩ hrec
  dsimp only at hv hf hg
  subst hv
  show ∃ f', LB_X11_restore_12 _ rec (nI j) f = some (1, f') ∧ _
  unfold LB_X11_restore_12
  by_cases hj : 30 ≤ j
  · rw [if_pos (show (30 : Int32) ≤ nI j from nI_le hj (by omega))]
    exact ⟨f, rfl, fun i hi => hf i (by omega), hg⟩
  · rw [if_neg (show ¬ (30 : Int32) ≤ nI j from nI_ge (a := j) (b := 30) (by omega) (by decide)), show (30 : Int32) + nI j = nI (30 + j) from nI_add 30 j, ob_t (inb_nI (by omega) (by decide)), ob_t (inb_nI (by omega) (by decide)), nI_clamp (by omega), nI_clamp (by omega), nI_1, hg _ (by omega)]
    refine hrec (nI (j + 1), _) ⟨j + 1, by omega, rfl, fun i hi => ?_, fun i hi => ?_⟩ (by show 30 - (nI (j + 1)).toNatClampNeg < 30 - (nI j).toNatClampNeg; rw [nI_clamp (by omega), nI_clamp (by omega)]; omega)
    · show upd f j _ i = _
      by_cases hij : i = j
      · subst hij; rw [pk_us]
      · rw [pk_un hij]; exact hf i (by omega)
    · show upd f j _ i = _
      rw [pk_un (by omega)]; exact hg i hi
