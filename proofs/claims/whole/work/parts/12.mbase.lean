/-! the mathematics: loops, numbers -/
theorem fixN_post {α β : Type} (body : (α → Option β) → α → Option β) (good : α → Prop) (μ : α → Nat) (P : α → Option β → Prop) (hs : ∀ (rec : α → Option β) (a : α), good a → (∀ b, good b → μ b < μ a → P b (rec b)) → P a (body rec a)) : ∀ n a, good a → μ a < n → P a (fixN body n a) := by
  intro n
  induction n with
  | zero => intro a _ h; exact absurd h (Nat.not_lt_zero _)
  | succ n ih => intro a hg hm; exact hs _ a hg (fun b hb hlt => ih b hb (by omega))
theorem fixN_spec {α β : Type} (body : (α → Option β) → α → Option β) (good : α → Prop) (μ : α → Nat) (spec : α → Option β) (hs : ∀ (rec : α → Option β) (a : α), good a → (∀ b, good b → μ b < μ a → rec b = spec b) → body rec a = spec a) : ∀ n a, good a → μ a < n → fixN body n a = spec a :=
  fixN_post body good μ (fun a o => o = spec a) hs
theorem fuel_lt {n : Nat} (h : n < 2 ^ 40) : n < FUEL := Nat.lt_of_lt_of_le h FUEL_ge
theorem zb0 : zb 0 = true := by decide
theorem zb1 : zb 1 = true := by decide
theorem within_ok (v lo hi : Int32) : f_X10_within v lo hi = some (if lo ≤ v ∧ v ≤ hi then 1 else 0) := by
  unfold f_X10_within B_X10_within_14 B_X10_within_15
  by_cases h1 : v < lo
  · rw [if_pos h1, if_neg (fun h => absurd h1 (Int32.not_lt.mpr h.1))]
    exact ob_t zb0 _
  · rw [if_neg h1]
    by_cases h2 : hi < v
    · rw [if_pos h2, if_neg (fun h => absurd h2 (Int32.not_lt.mpr h.2))]
      exact ob_t zb0 _
    · rw [if_neg h2, if_pos ⟨Int32.not_lt.mp h1, Int32.not_lt.mp h2⟩]
      exact ob_t zb1 _
theorem lgc_lt {x y : Int64} : lg_cmp x y < 0 ↔ x < y := by
  unfold lg_cmp
  by_cases h1 : y < x
  · rw [if_pos h1]
    exact ⟨fun h => absurd h (by decide), fun h => absurd h1 (Int64.not_lt.mpr (Int64.le_of_lt h))⟩
  · rw [if_neg h1]
    by_cases h2 : x = y
    · subst h2
      simp
    · have h3 : x < y := by
        rcases Int64.lt_or_eq_of_le (Int64.not_lt.mp h1) with h | h
        · exact h
        · exact absurd h h2
      simp [h2, h3]
theorem lgc_gt {x y : Int64} : 0 < lg_cmp x y ↔ y < x := by
  unfold lg_cmp
  by_cases h1 : y < x
  · rw [if_pos h1]
    exact ⟨fun _ => h1, fun _ => by decide⟩
  · rw [if_neg h1]
    by_cases h2 : x = y
    · subst h2
      simp
    · simp [h2, h1]
theorem in_ok (v lo hi : Int64) : f_X11_in v lo hi = some (if lo ≤ v ∧ v ≤ hi then 1 else 0) := by
  unfold f_X11_in B_X11_in_17 B_X11_in_18
  by_cases h1 : v < lo
  · rw [if_pos (lgc_lt.mpr h1), if_neg (fun h => absurd h1 (Int64.not_lt.mpr h.1))]
    exact ob_t zb0 _
  · rw [if_neg (fun h => h1 (lgc_lt.mp h))]
    by_cases h2 : hi < v
    · rw [if_pos (lgc_gt.mpr h2), if_neg (fun h => absurd h2 (Int64.not_lt.mpr h.2))]
      exact ob_t zb0 _
    · rw [if_neg (fun h => h2 (lgc_gt.mp h)), if_pos ⟨Int64.not_lt.mp h1, Int64.not_lt.mp h2⟩]
      exact ob_t zb1 _
/-- the same test over ints, asked in longs -/
theorem in_int (v lo hi : Int32) : f_X11_in v.toInt64 lo.toInt64 hi.toInt64 = some (if lo ≤ v ∧ v ≤ hi then 1 else 0) := by
  rw [in_ok]
  have e1 : (lo.toInt64 ≤ v.toInt64) ↔ lo ≤ v := by
    rw [Int64.le_iff_toInt_le, Int32.le_iff_toInt_le, Int32.toInt_toInt64, Int32.toInt_toInt64]
  have e2 : (v.toInt64 ≤ hi.toInt64) ↔ v ≤ hi := by
    rw [Int64.le_iff_toInt_le, Int32.le_iff_toInt_le, Int32.toInt_toInt64, Int32.toInt_toInt64]
  simp only [e1, e2]
theorem bit7 : ∀ o, o < 128 → ∀ b, b < 7 → ((nI o &&& ((1 : Int32) <<< (nI b &&& 31))) = 0 ↔ o.testBit b = false) := by decide +kernel
theorem has7 : ∀ o, o < 128 → ∀ b, b < 7 → (((nI o >>> (nI b &&& 31)) &&& (1 : Int32)) = 1 ↔ o.testBit b = true) := by decide +kernel
theorem reckon_ok {r off dbl : Nat} (hV : DaV r off dbl) {dues : Nat → Int32} (h0 : dues 0 = 0) : ∃ rd, f_X3_reckon (nI r) (nI off) (nI dbl) dues = some rd ∧ ∀ d, d ≤ 60 → rd d = nI (dueF r off dbl d) := by
  obtain ⟨hr1, hr2, ho, hd⟩ := hV
  unfold f_X3_reckon L_X3_reckon_2
  refine fixN_post _ (fun t : Int32 × (Nat → Int32) => ∃ j, 1 ≤ j ∧ j ≤ 61 ∧ t.1 = nI j ∧ ∀ d, d < j → t.2 d = nI (dueF r off dbl d)) (fun t => 61 - t.1.toNatClampNeg) (fun _ o => ∃ rd : Nat → Int32, o = some rd ∧ ∀ d, d ≤ 60 → rd d = nI (dueF r off dbl d)) ?_ FUEL ((1 : Int32), dues) ⟨1, by decide, by decide, rfl, fun d hd => ?_⟩ (fuel_lt (by show 61 - _ < _; omega))
  · rintro rec ⟨v, f⟩ ⟨j, h1, h2, hv, hf⟩ hrec
    dsimp only at hv hf
    subst hv
    show ∃ rd, LB_X3_reckon_2 _ _ _ _ rec (nI j) f = some rd ∧ _
    unfold LB_X3_reckon_2
    by_cases hj : 60 < j
    · rw [if_pos (show (60 : Int32) < nI j from nI_lt hj (by omega))]
      exact ⟨f, rfl, fun d hd => hf d (by omega)⟩
    · rw [if_neg (show ¬ (60 : Int32) < nI j from nI_nlt (a := 60) (b := j) (by omega) (by decide))]
      have e1 : nI j - (1 : Int32) = nI (j - 1) := pk_sub h1
      have e2 : nI (j - 1) - nI (j - 1) / (7 : Int32) * (7 : Int32) = nI ((j - 1) % 7) := pk_rem (by omega) (by decide) (by decide)
      have hb7 : (j - 1) % 7 < 7 := Nat.mod_lt _ (by decide)
      rw [e1, e2]
      have ed : dueF r off dbl j = dueF r off dbl (j - 1) + (if off.testBit ((j - 1) % 7) then 0 else if dbl.testBit ((j - 1) % 7) then 2 * r else r) := by
        obtain ⟨i, rfl⟩ : ∃ i, j = i + 1 := ⟨j - 1, by omega⟩
        rfl
      have tail : ∀ x : Nat, dueF r off dbl j = dueF r off dbl (j - 1) + x → ∃ rd, B_X3_reckon_52 (fun t => B_X3_reckon_75 t.2) rec f (nI j) (nI x) = some rd ∧ ∀ d, d ≤ 60 → rd d = nI (dueF r off dbl d) := by
        intro x hx
        unfold B_X3_reckon_52
        rw [e1, ob_t (inb_nI (by omega) (by decide)), ob_t (inb_nI (by omega) (by decide)), nI_clamp (by omega), nI_clamp (by omega), hf _ (by omega), nI_add, nI_1, ← hx]
        refine hrec (nI (j + 1), _) ⟨j + 1, by omega, by omega, rfl, fun d hd => ?_⟩ (by show 61 - (nI (j + 1)).toNatClampNeg < 61 - (nI j).toNatClampNeg; rw [nI_clamp (by omega), nI_clamp (by omega)]; omega)
        show upd f j _ d = _
        by_cases hdj : d = j
        · subst hdj; rw [pk_us]
        · rw [pk_un hdj]; exact hf d (by omega)
      by_cases b1 : off.testBit ((j - 1) % 7) = true
      · rw [if_neg (fun h => by rw [(bit7 off ho _ hb7).mp h] at b1; cases b1)]
        exact tail 0 (by rw [ed, if_pos b1])
      · have b1' : off.testBit ((j - 1) % 7) = false := by simpa using b1
        rw [if_pos ((bit7 off ho _ hb7).mpr b1')]
        by_cases b2 : dbl.testBit ((j - 1) % 7) = true
        · rw [if_neg (fun h => by rw [(bit7 dbl hd _ hb7).mp h] at b2; cases b2), show (2 : Int32) * nI r = nI (2 * r) from pk_mul 2 r]
          exact tail (2 * r) (by rw [ed, if_neg b1, if_pos b2])
        · have b2' : dbl.testBit ((j - 1) % 7) = false := by simpa using b2
          rw [if_pos ((bit7 dbl hd _ hb7).mpr b2')]
          exact tail r (by rw [ed, if_neg b1, if_neg b2])
  · have : d = 0 := by omega
    subst this
    show dues 0 = _
    rw [h0]
    rfl
