/-! sheets -/
theorem in_lit (v a b : Int32) {A B : Int64} (ha : a.toInt64 = A) (hb : b.toInt64 = B) : f_X11_in v.toInt64 A B = some (if a ≤ v ∧ v ≤ b then 1 else 0) := by
  rw [← ha, ← hb]; exact in_int v a b
theorem isSheet_ok (v : Int32) : f_X11_isSheet v = some (if (0 : Int32) ≤ v ∧ v ≤ 3 then 1 else 0) := by
  unfold f_X11_isSheet
  rw [in_lit v 0 3 (by decide) (by decide)]
  show ob (zb _) (some _) = _
  by_cases h : (0 : Int32) ≤ v ∧ v ≤ 3
  · rw [if_pos h]; exact ob_t zb1 _
  · rw [if_neg h]; exact ob_t zb0 _
theorem isRow_ok (v u : Int32) : f_X10_isRow v u = some (if ((0 : Int32) ≤ v ∧ v ≤ 3) ∧ ((0 : Int32) ≤ u ∧ u ≤ 2) then 1 else 0) := by
  unfold f_X10_isRow B_X10_isRow_22 B_X10_isRow_23
  rw [within_ok, within_ok]
  by_cases h : (0 : Int32) ≤ v ∧ v ≤ 3
  · by_cases h2 : (0 : Int32) ≤ u ∧ u ≤ 2
    · rw [if_pos h, if_pos h2, if_pos ⟨h, h2⟩]
      simp only [Option.bind_some]
      rw [if_neg (show ¬ (1 : Int32) = 0 by decide), if_neg (show ¬ (1 : Int32) = 0 by decide)]
      exact ob_t zb1 _
    · rw [if_pos h, if_neg h2, if_neg (show ¬ (((0 : Int32) ≤ v ∧ v ≤ 3) ∧ ((0 : Int32) ≤ u ∧ u ≤ 2)) from fun z => h2 z.2)]
      simp only [Option.bind_some]
      rw [if_neg (show ¬ (1 : Int32) = 0 by decide), if_pos trivial]
      exact ob_t zb0 _
  · rw [if_neg h, if_neg (show ¬ (((0 : Int32) ≤ v ∧ v ≤ 3) ∧ ((0 : Int32) ≤ u ∧ u ≤ 2)) from fun z => h z.1)]
    simp only [Option.bind_some]
    rw [if_pos trivial]
    exact ob_t zb0 _
/-- a number within two bounds is one of the naturals there -/
theorem nat_of {v : Int32} {N : Nat} {M : Int32} (hM : M.toInt = (N : Int)) (h : (0 : Int32) ≤ v ∧ v ≤ M) : ∃ j : Nat, j ≤ N ∧ v = nI j := nI_of2 hM (Int32.not_lt.mpr h.1) h.2
theorem renew_ok (items : Nat → Int64) (a b : Int32) : ∃ f : Nat → Int64, f_X7_renew items a b = some (1, a, b, f) ∧ ∀ i, i < 24 → f i = 0 := by
  unfold f_X7_renew L_X7_renew_17
  refine fixN_post _ (fun t : Int32 × (Nat → Int64) => ∃ j, j ≤ 24 ∧ t.1 = nI j ∧ ∀ i, i < j → t.2 i = 0) (fun t => 24 - t.1.toNatClampNeg) (fun _ o => ∃ f : Nat → Int64, o = some (1, a, b, f) ∧ ∀ i, i < 24 → f i = 0) ?_ FUEL ((0 : Int32), items) ⟨0, by decide, rfl, fun i hi => absurd hi (by omega)⟩ (fuel_lt (by show 24 - _ < _; omega))
  rintro rec ⟨v, f⟩ ⟨j, h1, hv, hf⟩ hrec
  dsimp only at hv hf
  subst hv
  show ∃ f', LB_X7_renew_17 _ rec (nI j) f = some (1, a, b, f') ∧ _
  unfold LB_X7_renew_17
  by_cases hj : 24 ≤ j
  · rw [if_pos (show (24 : Int32) ≤ nI j from nI_le hj (by omega))]
    exact ⟨f, rfl, fun i hi => hf i (by omega)⟩
  · rw [if_neg (show ¬ (24 : Int32) ≤ nI j from nI_ge (a := j) (b := 24) (by omega) (by decide)), ob_t (inb_nI (by omega) (by decide)), nI_clamp (by omega), nI_1]
    refine hrec (nI (j + 1), _) ⟨j + 1, by omega, rfl, fun i hi => ?_⟩ (by show 24 - (nI (j + 1)).toNatClampNeg < 24 - (nI j).toNatClampNeg; rw [nI_clamp (by omega), nI_clamp (by omega)]; omega)
    show vp_updL f j 0 i = 0
    by_cases hi2 : i = j
    · subst hi2; rw [pk_uLs]
    · rw [pk_uLn hi2]; exact hf i (by omega)
theorem sheetM_ok {q : Nat} (hq : q < 4) (lanes longs : Nat → Int32) (items : Nat → Int64) (v : Int32) : ∃ f : Nat → Int64, L_X11_sheet_51 (nI q) (fun t => B_X11_sheet_77 lanes longs t.2 v) FUEL ((0 : Int32), items) = some (v, lanes, longs, f) ∧ (∀ i, i < 24 → f (24 * q + i) = 0) ∧ ∀ i, (i < 24 * q ∨ 24 * q + 24 ≤ i) → f i = items i := by
  unfold L_X11_sheet_51
  refine fixN_post _ (fun t : Int32 × (Nat → Int64) => ∃ j, j ≤ 24 ∧ t.1 = nI j ∧ (∀ i, i < j → t.2 (24 * q + i) = 0) ∧ ∀ i, (i < 24 * q ∨ 24 * q + 24 ≤ i) → t.2 i = items i) (fun t => 24 - t.1.toNatClampNeg) (fun _ o => ∃ f : Nat → Int64, o = some (v, lanes, longs, f) ∧ (∀ i, i < 24 → f (24 * q + i) = 0) ∧ ∀ i, (i < 24 * q ∨ 24 * q + 24 ≤ i) → f i = items i) ?_ FUEL ((0 : Int32), items) ⟨0, by decide, rfl, fun i hi => absurd hi (by omega), fun _ _ => rfl⟩ (fuel_lt (by show 24 - _ < _; omega))
  rintro rec ⟨u, f⟩ ⟨j, h1, hv, hf, hg⟩ hrec
  dsimp only at hv hf hg
  subst hv
  show ∃ f', LB_X11_sheet_51 (nI q) _ rec (nI j) f = some (v, lanes, longs, f') ∧ _
  unfold LB_X11_sheet_51
  by_cases hj : 24 ≤ j
  · rw [if_pos (show (24 : Int32) ≤ nI j from nI_le hj (by omega))]
    exact ⟨f, rfl, fun i hi => hf i (by omega), hg⟩
  · rw [if_neg (show ¬ (24 : Int32) ≤ nI j from nI_ge (a := j) (b := 24) (by omega) (by decide)), show (24 : Int32) * nI q = nI (24 * q) from pk_mul 24 q, nI_add, ob_t (inb_nI (by omega) (by decide)), nI_clamp (by omega), nI_1]
    refine hrec (nI (j + 1), _) ⟨j + 1, by omega, rfl, fun i hi => ?_, fun i hi => ?_⟩ (by show 24 - (nI (j + 1)).toNatClampNeg < 24 - (nI j).toNatClampNeg; rw [nI_clamp (by omega), nI_clamp (by omega)]; omega)
    · show vp_updL f (24 * q + j) 0 (24 * q + i) = 0
      by_cases hi2 : i = j
      · subst hi2; rw [pk_uLs]
      · rw [pk_uLn (by omega)]; exact hf i (by omega)
    · show vp_updL f (24 * q + j) 0 i = items i
      rw [pk_uLn (by omega)]
      exact hg i hi
theorem va_up_s {α : Type} (f : Nat → α) (k : Nat) (v : α) : va_up f k v k = v := if_pos rfl
theorem va_up_n {α : Type} (f : Nat → α) {k j : Nat} (v : α) (h : j ≠ k) : va_up f k v j = f j := if_neg h
theorem c_sheet {there lane length : Nat → Int32} {items : Nat → Nat → Int64} {lanes longs : Nat → Int32} {mitems : Nat → Int64} (hS : RelS there lane length items lanes longs mitems) (p0 p1 p2 : Int32) : ∃ (rx : Int32 × (Nat → Int32) × (Nat → Int32) × (Nat → Int32) × (Nat → Nat → Int64)) (ry : Int32 × (Nat → Int32) × (Nat → Int32) × (Nat → Int64)), f_X10_sheet there lane length items p0 p1 p2 = some rx ∧ f_X11_sheet lanes longs mitems p0 p1 p2 = some ry ∧ rx.1 = ry.1 ∧ RelS rx.2.1 rx.2.2.1 rx.2.2.2.1 rx.2.2.2.2 ry.2.1 ry.2.2.1 ry.2.2.2 := by
  unfold f_X10_sheet f_X11_sheet B_X10_sheet_14 B_X11_sheet_25
  rw [isRow_ok, isSheet_ok, in_lit p1 0 2 (by decide) (by decide)]
  have bad : ∀ z : Int32, ∃ (rx : Int32 × (Nat → Int32) × (Nat → Int32) × (Nat → Int32) × (Nat → Nat → Int64)) (ry : Int32 × (Nat → Int32) × (Nat → Int32) × (Nat → Int64)), some (z, there, lane, length, items) = some rx ∧ some (z, lanes, longs, mitems) = some ry ∧ rx.1 = ry.1 ∧ RelS rx.2.1 rx.2.2.1 rx.2.2.2.1 rx.2.2.2.2 ry.2.1 ry.2.2.1 ry.2.2.2 := fun z => ⟨_, _, rfl, rfl, rfl, hS⟩
  by_cases h0 : (0 : Int32) ≤ p0 ∧ p0 ≤ 3
  · by_cases h1 : (0 : Int32) ≤ p1 ∧ p1 ≤ 2
    · rw [if_pos ⟨h0, h1⟩, if_pos h0, if_pos h1]
      simp only [Option.bind_some]
      rw [if_neg (show ¬ (1 : Int32) = 0 by decide), if_neg (show ¬ (1 : Int32) = 0 by decide), if_neg (show ¬ (1 : Int32) = 0 by decide)]
      by_cases h2 : p2 ≤ (24 : Int32)
      · rw [if_pos h2, if_pos h2]
        by_cases h3 : 0 ≤ p2
        · rw [if_pos h3, if_pos h3]
          obtain ⟨q, hq, rfl⟩ := nat_of (N := 3) (M := 3) (by decide) h0
          obtain ⟨la, hla, rfl⟩ := nat_of (N := 2) (M := 2) (by decide) h1
          obtain ⟨L, hL, rfl⟩ := nat_of (N := 24) (M := 24) (by decide) ⟨h3, h2⟩
          obtain ⟨f, ef, hf⟩ := renew_ok (items q) (nI la) (nI L)
          rw [ob_t (inb_nI (by omega) (by decide)), ob_t (inb_nI (by omega) (by decide)), ob_t (inb_nI (by omega) (by decide)), nI_clamp (by omega), ef]
          obtain ⟨g, eg, hg1, hg2⟩ := sheetM_ok (q := q) (by omega) (upd lanes q (nI la)) (upd longs q (nI L)) mitems (nI L)
          rw [eg]
          refine ⟨_, _, rfl, rfl, rfl, fun z hz => ?_⟩
          show (∃ L', L' ≤ 24 ∧ va_up length q (nI L) z = nI L' ∧ upd longs q (nI L) z = nI L') ∧ ((va_up there q 1 z = 0 ∧ upd lanes q (nI la) z = -1) ∨ (va_up there q 1 z = 1 ∧ ∃ la', la' < 3 ∧ va_up lane q (nI la) z = nI la' ∧ upd lanes q (nI la) z = nI la')) ∧ ∀ i, i < 24 → va_up items q f z i = g (24 * z + i)
          by_cases hzq : z = q
          · subst hzq
            rw [va_up_s, va_up_s, va_up_s, va_up_s, pk_us, pk_us]
            exact ⟨⟨L, hL, rfl, rfl⟩, Or.inr ⟨rfl, la, by omega, rfl, rfl⟩, fun i hi => by rw [hf i hi, hg1 i hi]⟩
          · rw [va_up_n _ _ hzq, va_up_n _ _ hzq, va_up_n _ _ hzq, va_up_n _ _ hzq, pk_un hzq, pk_un hzq]
            obtain ⟨a1, a2, a3⟩ := hS z hz
            exact ⟨a1, a2, fun i hi => by rw [a3 i hi, hg2 _ (by omega)]⟩
        · rw [if_neg h3, if_neg h3]
          exact bad _
      · rw [if_neg h2, if_neg h2]
        exact bad _
    · rw [if_neg (fun z => h1 z.2), if_pos h0, if_neg h1]
      exact bad _
  · rw [if_neg (fun z => h0 z.1), if_neg h0]
    exact bad _
theorem c_drop {there lane length : Nat → Int32} {items : Nat → Nat → Int64} {lanes longs : Nat → Int32} {mitems : Nat → Int64} (hS : RelS there lane length items lanes longs mitems) (p0 : Int32) : ∃ (rx : Int32 × (Nat → Int32)) (ry : Int32 × (Nat → Int32)), f_X10_drop there length p0 = some rx ∧ f_X11_drop lanes longs p0 = some ry ∧ rx.1 = ry.1 ∧ RelS rx.2 lane length items ry.2 longs mitems := by
  unfold f_X10_drop f_X11_drop
  rw [within_ok, isSheet_ok]
  by_cases h0 : (0 : Int32) ≤ p0 ∧ p0 ≤ 3
  · rw [if_pos h0]
    simp only [Option.bind_some]
    rw [if_neg (show ¬ (1 : Int32) = 0 by decide), if_neg (show ¬ (1 : Int32) = 0 by decide)]
    obtain ⟨q, hq, rfl⟩ := nat_of (N := 3) (M := 3) (by decide) h0
    have ei : inb (nI q) 4 = true := inb_nI (by omega) (by decide)
    rw [ob_t ei, ob_t ei, ob_t ei, ob_t ei, ob_t ei, ob_t ei, nI_clamp (by omega)]
    obtain ⟨⟨L, hL, e1, e2⟩, a2, a3⟩ := hS q (by omega)
    rcases a2 with ⟨e3, e4⟩ | ⟨e3, la, hla, e5, e6⟩
    · rw [e3, if_pos rfl, e4, if_neg (by decide)]
      exact ⟨_, _, rfl, rfl, rfl, hS⟩
    · rw [e3, if_neg (by decide), e6, if_pos (nI_pos' (by omega))]
      refine ⟨_, _, rfl, rfl, by rw [e1, e2], fun z hz => ?_⟩
      obtain ⟨b1, b2, b3⟩ := hS z hz
      refine ⟨b1, ?_, b3⟩
      show (va_up there q 0 z = 0 ∧ upd lanes q (-1) z = -1) ∨ (va_up there q 0 z = 1 ∧ ∃ la', la' < 3 ∧ lane z = nI la' ∧ upd lanes q (-1) z = nI la')
      by_cases hzq : z = q
      · subst hzq
        rw [va_up_s, pk_us]
        exact Or.inl ⟨rfl, rfl⟩
      · rw [va_up_n _ _ hzq, pk_un hzq]
        exact b2
  · rw [if_neg h0]
    exact ⟨_, _, rfl, rfl, rfl, hS⟩
