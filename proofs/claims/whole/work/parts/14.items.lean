/-! what a sheet refuses; items -/
theorem i64_toInt (x : Int32) : x.toInt64.toInt = x.toInt := Int32.toInt_toInt64 x
theorem spans_ok {L : Nat} (hL : L ≤ 24) (i n : Int32) : f_X7_spans (nI L) i n = some (if 0 ≤ i.toInt ∧ 0 ≤ n.toInt ∧ i.toInt + n.toInt ≤ L then 1 else 0) := by
  unfold f_X7_spans B_X7_spans_30 B_X7_spans_31
  have eL : (nI L).toInt = (L : Int) := nI_toInt (by omega)
  have z0 : ((0 : Int32)).toInt = 0 := by decide
  by_cases h1 : i < 0
  · have h1' := Int32.lt_iff_toInt_lt.mp h1
    rw [z0] at h1'
    rw [if_pos h1, if_neg (by omega)]
    exact ob_t zb0 _
  · have h1' : ¬ i.toInt < 0 := fun z => h1 (Int32.lt_iff_toInt_lt.mpr (by rw [z0]; exact z))
    rw [if_neg h1]
    by_cases h2 : n < 0
    · have h2' := Int32.lt_iff_toInt_lt.mp h2
      rw [z0] at h2'
      rw [if_pos h2, if_neg (by omega)]
      exact ob_t zb0 _
    · have h2' : ¬ n.toInt < 0 := fun z => h2 (Int32.lt_iff_toInt_lt.mpr (by rw [z0]; exact z))
      rw [if_neg h2]
      by_cases h3 : nI L < n
      · have h3' := Int32.lt_iff_toInt_lt.mp h3
        rw [eL] at h3'
        rw [if_pos h3, if_neg (by omega)]
        exact ob_t zb0 _
      · have h3' : ¬ (L : Int) < n.toInt := fun z => h3 (Int32.lt_iff_toInt_lt.mpr (by rw [eL]; exact z))
        rw [if_neg h3]
        obtain ⟨b, hb, rfl⟩ := nI_of h2
        have eb : (nI b).toInt = (b : Int) := nI_toInt hb
        rw [eb] at h3'
        have es : (nI L - nI b).toInt = (L : Int) - b := pk_sub_toInt (by omega) (by omega)
        by_cases h4 : nI L - nI b < i
        · have h4' := Int32.lt_iff_toInt_lt.mp h4
          rw [es] at h4'
          rw [if_pos h4, if_neg (by rw [eb]; omega)]
          exact ob_t zb0 _
        · have h4' : ¬ (L : Int) - b < i.toInt := fun z => h4 (Int32.lt_iff_toInt_lt.mpr (by rw [es]; exact z))
          rw [if_neg h4, if_pos (by rw [eb]; omega)]
          exact ob_t zb1 _
theorem lgc_le {x y : Int64} : lg_cmp x y ≤ 0 ↔ x ≤ y := by
  rw [← Int32.not_lt, lgc_gt, Int64.not_lt]
theorem sum_le {L : Nat} (hL : L ≤ 24) (i n : Int32) (h1 : 0 ≤ i.toInt) (h2 : 0 ≤ n.toInt) : (lg_cmp (i.toInt64 + n.toInt64) (nI L).toInt64 ≤ 0) ↔ i.toInt + n.toInt ≤ L := by
  rw [lgc_le, Int64.le_iff_toInt_le, i64_toInt, nI_toInt (by omega), Int64.toInt_add, i64_toInt, i64_toInt]
  have a1 := Int32.toInt_lt i
  have a2 := Int32.toInt_lt n
  rw [Int.bmod_eq_of_le (by omega) (by omega)]
theorem ref_bars {there lane length : Nat → Int32} {items : Nat → Nat → Int64} {lanes longs : Nat → Int32} {mitems : Nat → Int64} (hS : RelS there lane length items lanes longs mitems) {q : Nat} (hq : q < 4) (la i n : Int32) : ∃ z : Int32, f_X7_refusal (there q) (lane q) (length q) la i n = some z ∧ f_X11_bars lanes longs (nI q) la i n = some z ∧ (z = 0 → lane q = la ∧ lanes q = la ∧ there q = 1 ∧ ∃ L, L ≤ 24 ∧ length q = nI L ∧ longs q = nI L ∧ 0 ≤ i.toInt ∧ 0 ≤ n.toInt ∧ i.toInt + n.toInt ≤ L) := by
  unfold f_X7_refusal f_X11_bars B_X7_refusal_36 B_X11_bars_55 B_X11_bars_61
  have ei : inb (nI q) 4 = true := inb_nI hq (by decide)
  rw [ob_t ei, ob_t ei, ob_t ei, nI_clamp (by omega)]
  obtain ⟨⟨L, hL, e1, e2⟩, a2, a3⟩ := hS q hq
  rcases a2 with ⟨e3, e4⟩ | ⟨e3, la', hla, e5, e6⟩
  · rw [e3, if_pos rfl, e4, if_neg (by decide)]
    exact ⟨_, rfl, rfl, fun h => absurd h (by decide)⟩
  · rw [e3, if_neg (by decide), e6, if_pos (nI_pos' (by omega)), e5, e1, e2, spans_ok hL]
    by_cases hl : nI la' = la
    · rw [if_pos hl, if_pos hl]
      simp only [Option.bind_some]
      have z0 : ((0 : Int32)).toInt = 0 := by decide
      by_cases h1 : i < 0
      · have h1' := Int32.lt_iff_toInt_lt.mp h1
        rw [z0] at h1'
        rw [if_neg (show ¬ (0 ≤ i.toInt ∧ 0 ≤ n.toInt ∧ i.toInt + n.toInt ≤ L) by omega), if_pos (rfl : (0 : Int32) = 0), if_pos h1]
        exact ⟨_, rfl, rfl, fun h => absurd h (by decide)⟩
      · have h1' : ¬ i.toInt < 0 := fun z => h1 (Int32.lt_iff_toInt_lt.mpr (by rw [z0]; exact z))
        rw [if_neg h1]
        by_cases h2 : n < 0
        · have h2' := Int32.lt_iff_toInt_lt.mp h2
          rw [z0] at h2'
          rw [if_neg (show ¬ (0 ≤ i.toInt ∧ 0 ≤ n.toInt ∧ i.toInt + n.toInt ≤ L) by omega), if_pos (rfl : (0 : Int32) = 0), if_pos h2]
          exact ⟨_, rfl, rfl, fun h => absurd h (by decide)⟩
        · have h2' : ¬ n.toInt < 0 := fun z => h2 (Int32.lt_iff_toInt_lt.mpr (by rw [z0]; exact z))
          rw [if_neg h2]
          by_cases h3 : i.toInt + n.toInt ≤ L
          · rw [if_pos (show 0 ≤ i.toInt ∧ 0 ≤ n.toInt ∧ i.toInt + n.toInt ≤ L by omega), if_neg (show ¬ (1 : Int32) = 0 by decide), if_pos ((sum_le hL i n (by omega) (by omega)).mpr h3)]
            exact ⟨0, rfl, rfl, fun _ => ⟨hl, hl, trivial, L, hL, rfl, rfl, by omega, by omega, h3⟩⟩
          · rw [if_neg (show ¬ (0 ≤ i.toInt ∧ 0 ≤ n.toInt ∧ i.toInt + n.toInt ≤ L) by omega), if_pos (rfl : (0 : Int32) = 0), if_neg (fun z => h3 ((sum_le hL i n (by omega) (by omega)).mp z))]
            exact ⟨_, rfl, rfl, fun h => absurd h (by decide)⟩
    · rw [if_neg hl, if_neg hl]
      exact ⟨_, rfl, rfl, fun h => absurd h (by decide)⟩
/-- what a lane keeps of a number -/
def cutL (la : Nat) (v : Int64) : Int64 := if la = 0 then v.toInt32.toInt8.toInt32.toInt64 else if la = 1 then v.toInt32.toInt64 else v
theorem cutTo_ok {la : Nat} (h : la < 3) (v : Int64) : f_X11_cutTo (nI la) v = some (cutL la v) := by
  unfold f_X11_cutTo B_X11_cutTo_23 cutL
  match la, h with
  | 0, _ => rfl
  | 1, _ => rfl
  | 2, _ => rfl
theorem put_ok {la i : Nat} (h : la < 3) (hi : i < 24) (items : Nat → Int64) (v : Int64) : f_X7_put (nI la) items (nI i) v = some (vp_updL items i (cutL la v)) := by
  unfold f_X7_put B_X7_put_34 cutL
  rw [ob_t (inb_nI hi (by decide)), ob_t (inb_nI hi (by decide)), ob_t (inb_nI hi (by decide)), nI_clamp (by omega)]
  match la, h with
  | 0, _ => rfl
  | 1, _ => rfl
  | 2, _ => rfl
theorem nat_of_toInt {i : Int32} (h : 0 ≤ i.toInt) : ∃ j : Nat, i = nI j ∧ (j : Int) = i.toInt ∧ j < 2 ^ 31 := by
  obtain ⟨j, hj, rfl⟩ := nI_of (x := i) (fun z => by
    have := Int32.lt_iff_toInt_lt.mp z
    have z0 : ((0 : Int32)).toInt = 0 := by decide
    rw [z0] at this
    omega)
  exact ⟨j, rfl, (nI_toInt hj).symm, hj⟩
theorem c_item {there lane length : Nat → Int32} {items : Nat → Nat → Int64} {lanes longs : Nat → Int32} {mitems : Nat → Int64} (hS : RelS there lane length items lanes longs mitems) (p0 p1 p2 : Int32) (p3 : Int64) : ∃ (rx : Int32 × (Nat → Nat → Int64)) (ry : Int32 × (Nat → Int64)), f_X10_item there lane length items p0 p1 p2 p3 = some rx ∧ f_X11_item lanes longs mitems p0 p1 p2 p3 = some ry ∧ rx.1 = ry.1 ∧ RelS there lane length rx.2 lanes longs ry.2 := by
  unfold f_X10_item f_X11_item B_X11_item_19
  rw [isRow_ok, isSheet_ok, in_lit p1 0 2 (by decide) (by decide)]
  have bad : ∀ z : Int32, ∃ (rx : Int32 × (Nat → Nat → Int64)) (ry : Int32 × (Nat → Int64)), some (z, items) = some rx ∧ some (z, mitems) = some ry ∧ rx.1 = ry.1 ∧ RelS there lane length rx.2 lanes longs ry.2 := fun z => ⟨_, _, rfl, rfl, rfl, hS⟩
  by_cases h0 : (0 : Int32) ≤ p0 ∧ p0 ≤ 3
  · by_cases h1 : (0 : Int32) ≤ p1 ∧ p1 ≤ 2
    · rw [if_pos ⟨h0, h1⟩, if_pos h0, if_pos h1]
      simp only [Option.bind_some]
      rw [if_neg (show ¬ (1 : Int32) = 0 by decide), if_neg (show ¬ (1 : Int32) = 0 by decide), if_neg (show ¬ (1 : Int32) = 0 by decide)]
      obtain ⟨q, hq, rfl⟩ := nat_of (N := 3) (M := 3) (by decide) h0
      obtain ⟨la, hla, rfl⟩ := nat_of (N := 2) (M := 2) (by decide) h1
      have ei : inb (nI q) 4 = true := inb_nI (by omega) (by decide)
      rw [ob_t ei, ob_t ei, nI_clamp (by omega)]
      obtain ⟨z, e1, e2, e3⟩ := ref_bars hS (q := q) (by omega) (nI la) p2 1
      rw [e1, e2]
      simp only [Option.bind_some]
      by_cases hz : z = 0
      · rw [if_pos hz, if_pos hz]
        obtain ⟨f1, f2, f3, L, hL, f4, f5, f6, f7, f8⟩ := e3 hz
        obtain ⟨i, rfl, hi, -⟩ := nat_of_toInt f6
        have o1 : ((1 : Int32)).toInt = 1 := by decide
        rw [o1] at f8
        rw [f1, put_ok (by omega) (by omega), cutTo_ok (by omega)]
        simp only [Option.bind_some]
        rw [show (24 : Int32) * nI q = nI (24 * q) from pk_mul 24 q, nI_add, ob_t (inb_nI (by omega) (by decide)), nI_clamp (by omega)]
        refine ⟨_, _, rfl, rfl, rfl, fun y hy => ?_⟩
        obtain ⟨b1, b2, b3⟩ := hS y hy
        refine ⟨b1, b2, fun j hj => ?_⟩
        show va_up items q _ y j = vp_updL mitems (24 * q + i) _ (24 * y + j)
        by_cases hyq : y = q
        · subst hyq
          rw [va_up_s]
          by_cases hji : j = i
          · subst hji; rw [pk_uLs, pk_uLs]
          · rw [pk_uLn hji, pk_uLn (by omega)]; exact b3 j hj
        · rw [va_up_n _ _ hyq, pk_uLn (by omega)]
          exact b3 j hj
      · rw [if_neg hz, if_neg hz]
        exact bad _
    · rw [if_neg (fun z => h1 z.2), if_pos h0, if_neg h1]
      exact bad _
  · rw [if_neg (fun z => h0 z.1), if_neg h0]
    exact bad _
