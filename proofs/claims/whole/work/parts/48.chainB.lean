/-! chain: numbers and cuts -/
/-- two loops in step, the second may end a turn later -/
theorem loopR3 {α β α' β' : Type} (body : (α → Option β) → α → Option β) (body' : (α' → Option β') → α' → Option β') (Q : Option β → Option β' → Prop) (I : Nat → α → α' → Prop) (step : ∀ m a a', I m a a' → ∀ rec rec', Q (body rec a) (body' rec' a') ∨ (∃ b', body' rec' a' = rec' b' ∧ ∀ rec2, Q (body rec a) (body' rec2 b')) ∨ ∃ m' b b', m' < m ∧ I m' b b' ∧ body rec a = rec b ∧ body' rec' a' = rec' b') : ∀ (f f' m : Nat) (a : α) (a' : α'), I m a a' → m < f → m + 1 < f' → Q (fixN body f a) (fixN body' f' a') := by
  intro f
  induction f with
  | zero => intro f' m a a' _ h; exact absurd h (Nat.not_lt_zero _)
  | succ n ih =>
    intro f' m a a' hI hm hm'
    obtain ⟨n', rfl⟩ : ∃ n', f' = n' + 1 := ⟨f' - 1, by omega⟩
    rcases step m a a' hI (fixN body n) (fixN body' n') with h | ⟨b', h1, h2⟩ | ⟨m', b, b', h1, h2, h3, h4⟩
    · exact h
    · obtain ⟨n2, rfl⟩ : ∃ n2, n' = n2 + 1 := ⟨n' - 1, by omega⟩
      show Q (body (fixN body n) a) (body' (fixN body' (n2 + 1)) a')
      rw [h1]
      exact h2 _
    · show Q (body (fixN body n) a) (body' (fixN body' n') a')
      rw [h3, h4]
      exact ih n' m' b b' h2 (by omega) (by omega)
theorem hasNotch_n {kd m x : Nat} (hkd : kd ≤ 3) (hm1 : 1 ≤ m) (hm : m ≤ 24) (hx : x < 2 ^ 31) : f_X1_hasNotch (nI kd) (nI m) (nI x) = some (if x < notchN kd m then 1 else 0) := by
  have hN := notchN_le (kd := kd) (n := m)
  unfold f_X1_hasNotch B_X1_hasNotch_16 B_X1_hasNotch_17
  rw [if_neg (nI_pos hx), notches_ok hkd hm1 hm, Option.bind_some]
  by_cases cx : x < notchN kd m
  · rw [if_pos cx, if_neg (nI_ge cx (by omega)), ob_t zb1]
  · rw [if_neg cx, if_pos (nI_le (by omega) hx), ob_t zb0]
def NR (x y : Nat) : Prop := y < 2000 ∧ ((y < 24 ∧ x = y) ∨ (24 ≤ y ∧ x = 24))
theorem number_ok {b : Nat → Nat} {tl a : Nat} {bytes tape : Nat → Int32} (htl : tl ≤ 60) (hB : TB b tl bytes) (hT : TB b tl tape) (ha : a ≤ tl) (kx : Int32 × Int32 → Option (Int32 × Int32)) (kx' : Int32 × Int32 → Option (Int32 × Int32 × Int32 × Int32 × Int32 × (Nat → Int32))) : ∃ p x y, L_X9_readNumber_2 (nI tl) bytes kx FUEL (0, nI a) = kx (nI x, nI p) ∧ L_X11_faultOf_186 (nI tl) tape kx' FUEL (0, nI a) = kx' (nI y, nI p) ∧ a ≤ p ∧ p ≤ tl ∧ NR x y ∧ ((a < tl ∧ 48 ≤ b a ∧ b a ≤ 57) → a < p) ∧ (¬ (a < tl ∧ 48 ≤ b a ∧ b a ≤ 57) → p = a) := by
  unfold L_X9_readNumber_2 L_X11_faultOf_186
  refine loopR2 _ _ (fun o o' => ∃ p x y, o = kx (nI x, nI p) ∧ o' = kx' (nI y, nI p) ∧ a ≤ p ∧ p ≤ tl ∧ NR x y ∧ ((a < tl ∧ 48 ≤ b a ∧ b a ≤ 57) → a < p) ∧ (¬ (a < tl ∧ 48 ≤ b a ∧ b a ≤ 57) → p = a)) (fun μ s s' => ∃ p x y, s = (nI x, nI p) ∧ s' = (nI y, nI p) ∧ a ≤ p ∧ p ≤ tl ∧ μ = tl - p ∧ NR x y ∧ (a < p → (a < tl ∧ 48 ≤ b a ∧ b a ≤ 57))) ?_ FUEL FUEL (tl - a) _ _ ⟨a, 0, 0, rfl, rfl, Nat.le_refl _, ha, rfl, ⟨by decide, Or.inl ⟨by decide, rfl⟩⟩, fun z => absurd z (by omega)⟩ (fuel_lt (by omega)) (fuel_lt (by omega))
  rintro μ s s' ⟨p, x, y, rfl, rfl, hap, hp, rfl, hN, hfirst⟩ rec rec'
  show (∃ p2 x2 y2, LB_X9_readNumber_2 (nI tl) bytes kx rec (nI x) (nI p) = kx (nI x2, nI p2) ∧ LB_X11_faultOf_186 (nI tl) tape kx' rec' (nI y) (nI p) = kx' (nI y2, nI p2) ∧ a ≤ p2 ∧ p2 ≤ tl ∧ NR x2 y2 ∧ ((a < tl ∧ 48 ≤ b a ∧ b a ≤ 57) → a < p2) ∧ (¬ (a < tl ∧ 48 ≤ b a ∧ b a ≤ 57) → p2 = a)) ∨ ∃ m' b1 b1', m' < tl - p ∧ _ ∧ LB_X9_readNumber_2 (nI tl) bytes kx rec (nI x) (nI p) = rec b1 ∧ LB_X11_faultOf_186 (nI tl) tape kx' rec' (nI y) (nI p) = rec' b1'
  have hx24 : x ≤ 24 := by
    rcases hN.2 with z | z <;> omega
  have hy2 := hN.1
  have stop : ¬ (p < tl ∧ 48 ≤ b p ∧ b p ≤ 57) → ((a < tl ∧ 48 ≤ b a ∧ b a ≤ 57) → a < p) ∧ (¬ (a < tl ∧ 48 ≤ b a ∧ b a ≤ 57) → p = a) := fun hn => by
    constructor
    · intro hd
      by_cases c : a = p
      · rw [← c] at hn; exact absurd hd hn
      · omega
    · intro hd
      by_cases c : a = p
      · exact c.symm
      · exact absurd (hfirst (by omega)) hd
  unfold LB_X9_readNumber_2 LB_X11_faultOf_186 B_X11_faultOf_249
  by_cases ce : p < tl
  · have hbp := hB p ce
    have htp := hT p ce
    have ip : inb (nI p) 60 = true := inb_nI (by omega) (by decide)
    rw [if_neg (nI_ge ce (by omega)), if_neg (nI_ge ce (by omega))]
    simp only [ob_t ip]
    rw [nI_clamp (by omega), hbp.1, htp.1, within_ok, in_lit _ 48 57 (by decide) (by decide)]
    simp only [Option.bind_some]
    have hin : ((48 : Int32) ≤ nI (b p) ∧ nI (b p) ≤ 57) ↔ (48 ≤ b p ∧ b p ≤ 57) := by
      rw [show (48 : Int32) = nI 48 from rfl, show (57 : Int32) = nI 57 from rfl, nI_leI (by omega) (by omega), nI_leI (by omega) (by omega)]
    by_cases c : (48 : Int32) ≤ nI (b p) ∧ nI (b p) ≤ 57
    · have cd := hin.mp c
      have e1 : nI x * (10 : Int32) + nI (b p) - 48 = nI (x * 10 + b p - 48) := by
        rw [show nI x * (10 : Int32) = nI (x * 10) from pk_mul x 10, nI_add, show nI (x * 10 + b p) - (48 : Int32) = nI (x * 10 + b p - 48) from pk_sub (b := 48) (by omega)]
      have e2 : (10 : Int32) * nI y + nI (b p) - 48 = nI (10 * y + b p - 48) := by
        rw [show (10 : Int32) * nI y = nI (10 * y) from pk_mul 10 y, nI_add, show nI (10 * y + b p) - (48 : Int32) = nI (10 * y + b p - 48) from pk_sub (b := 48) (by omega)]
      rw [if_pos c, if_neg n10, if_neg n10, e1, e2, nI_1]
      right
      have hfr : a < p + 1 → (a < tl ∧ 48 ≤ b a ∧ b a ≤ 57) := fun _ => by
        by_cases c2 : a = p
        · rw [c2]; exact ⟨ce, cd⟩
        · exact hfirst (by omega)
      have main : ∃ x2 y2, NR x2 y2 ∧ (if (24 : Int32) < nI (x * 10 + b p - 48) then (24 : Int32) else nI (x * 10 + b p - 48)) = nI x2 ∧ (if nI y ≤ (99 : Int32) then rec' (nI (10 * y + b p - 48), nI (p + 1)) else rec' (nI y, nI (p + 1))) = rec' (nI y2, nI (p + 1)) := by
        have ex : (if (24 : Int32) < nI (x * 10 + b p - 48) then (24 : Int32) else nI (x * 10 + b p - 48)) = nI (if 24 < x * 10 + b p - 48 then 24 else x * 10 + b p - 48) := by
          by_cases q : 24 < x * 10 + b p - 48
          · rw [if_pos q, if_pos (show (24 : Int32) < nI (x * 10 + b p - 48) from nI_lt (a := 24) q (by omega))]; rfl
          · rw [if_neg q, if_neg (show ¬ (24 : Int32) < nI (x * 10 + b p - 48) from nI_nlt (a := 24) (by omega) (by decide))]
        by_cases q : y ≤ 99
        · refine ⟨_, 10 * y + b p - 48, ?_, ex, by rw [if_pos (show nI y ≤ (99 : Int32) from nI_le (b := 99) q (by decide))]⟩
          refine ⟨by omega, ?_⟩
          rcases hN.2 with ⟨z1, z2⟩ | ⟨z1, z2⟩
          · by_cases q2 : 24 < x * 10 + b p - 48
            · rw [if_pos q2]; exact Or.inr ⟨by omega, rfl⟩
            · rw [if_neg q2]
              by_cases q3 : x * 10 + b p - 48 = 24
              · exact Or.inr ⟨by omega, q3⟩
              · exact Or.inl ⟨by omega, by omega⟩
          · rw [if_pos (by omega)]; exact Or.inr ⟨by omega, rfl⟩
        · refine ⟨_, y, ?_, ex, by rw [if_neg (show ¬ nI y ≤ (99 : Int32) from nI_ge (a := 99) (by omega) (by omega))]⟩
          refine ⟨by omega, Or.inr ⟨by omega, ?_⟩⟩
          rcases hN.2 with ⟨z1, z2⟩ | ⟨z1, z2⟩
          · omega
          · rw [if_pos (by omega)]
      obtain ⟨x2, y2, n2, m1, m2⟩ := main
      rw [m1, m2]
      exact ⟨tl - (p + 1), _, _, by omega, ⟨p + 1, x2, y2, rfl, rfl, by omega, by omega, rfl, n2, hfr⟩, rfl, rfl⟩
    · left
      rw [if_neg c, if_pos rfl, if_pos rfl]
      have st := stop (fun z => c (hin.mpr z.2))
      exact ⟨p, x, y, rfl, rfl, hap, hp, hN, st.1, st.2⟩
  · left
    have e : p = tl := by omega
    rw [if_pos (nI_le (by omega) (by omega)), if_pos (nI_le (by omega) (by omega))]
    have st := stop (fun z => ce z.1)
    exact ⟨p, x, y, rfl, rfl, hap, hp, hN, st.1, st.2⟩
/-- cuts that are read so far -/
def CutR (kd m : Nat) (cs : List Nat) (cuts : Nat → Int32) : Prop := cs.Pairwise (· < ·) ∧ (∀ c ∈ cs, c < notchN kd m) ∧ ∀ i, i < cs.length → cuts i = nI (cs.getD i 0)
theorem cuts_ok {b : Nat → Nat} {tl kd m s : Nat} {bytes tape rw' : Nat → Int32} (htl : tl ≤ 60) (hB : TB b tl bytes) (hT : TB b tl tape) (hkd : kd ≤ 3) (hm1 : 1 ≤ m) (hm : m ≤ 24) (hs : s < tl) (hss : skp b tl s = s) (h47 : SV b tl s = 47) (cuts : Nat → Int32) : (∃ cs' z z' cuts', cs'.length ≤ 5 ∧ CutR kd m cs' cuts' ∧ f_X9_readCuts (nI tl) (nI (s + 1)) bytes (nI kd) (nI m) 0 cuts = some (nI m, z, nI cs'.length, cuts') ∧ L_X11_faultOf_149 (nI tl) (nI m) (nI kd) tape rw' (nI (notchN kd m)) (fun t => B_X11_faultOf_316 (nI tl) t.2.2.1 (nI m) (nI kd) t.2.2.2 tape rw') FUEL (47, 0, nI s, 0) = some (-1, z', nI m, nI kd, nI (mask cs'), rw')) ∨ (∃ p z z' cc cuts' mk, p ≤ 60 ∧ f_X9_readCuts (nI tl) (nI (s + 1)) bytes (nI kd) (nI m) 0 cuts = some (-20 - nI p, z, cc, cuts') ∧ L_X11_faultOf_149 (nI tl) (nI m) (nI kd) tape rw' (nI (notchN kd m)) (fun t => B_X11_faultOf_316 (nI tl) t.2.2.1 (nI m) (nI kd) t.2.2.2 tape rw') FUEL (47, 0, nI s, 0) = some (nI p, z', nI m, nI kd, mk, rw')) := by
  have hN := notchN_le (kd := kd) (n := m)
  unfold f_X9_readCuts L_X9_readCuts_2 L_X11_faultOf_149
  refine loopR3 _ _ (fun o o' => (∃ cs' z z' cuts', cs'.length ≤ 5 ∧ CutR kd m cs' cuts' ∧ o = some (nI m, z, nI cs'.length, cuts') ∧ o' = some (-1, z', nI m, nI kd, nI (mask cs'), rw')) ∨ (∃ p z z' cc cuts' mk, p ≤ 60 ∧ o = some (-20 - nI p, z, cc, cuts') ∧ o' = some (nI p, z', nI m, nI kd, mk, rw'))) (fun μ x x' => ∃ (k sp ar : Nat) (nx : Int32) (cs : List Nat) (cu : Nat → Int32), x = (nI (k + 1), nI (sp + 1), nI cs.length, cu) ∧ x' = (nx, nI k, nI ar, nI (mask cs)) ∧ k < 5 ∧ μ = 5 - k ∧ cs.length = k ∧ CutR kd m cs cu ∧ sp < tl ∧ ar ≤ tl ∧ skp b tl ar = sp ∧ SV b tl sp = nx) ?_ FUEL FUEL 5 _ _ ⟨0, s, s, 47, [], cuts, rfl, rfl, by decide, rfl, rfl, ⟨List.Pairwise.nil, fun c hc => (by cases hc), fun i hi => absurd hi (by show ¬ i < 0; omega)⟩, hs, by omega, hss, h47⟩ (fuel_lt (by decide)) (fuel_lt (by decide))
  rintro μ x x' ⟨k, sp, ar, nx, cs, cu, rfl, rfl, hk, rfl, hck, ⟨c1, c2, c3⟩, hsp, har, hsk, hnx⟩ rec rec'
  have hq := skp_le (b := b) (show sp + 1 ≤ tl by omega)
  have hqg := skp_ge (b := b) (tl := tl) (a := sp + 1)
  have hqq := skp_skp (b := b) (show sp + 1 ≤ tl by omega)
  have hb24 : ∀ c ∈ cs, c < 24 := fun c hc => by have := c2 c hc; omega
  show (((∃ cs' z z' cuts', cs'.length ≤ 5 ∧ CutR kd m cs' cuts' ∧ LB_X9_readCuts_2 (nI tl) bytes (nI kd) (nI m) (fun t => B_X9_readCuts_122 t.2.1 t.2.2.1 t.2.2.2) rec (nI (k + 1)) (nI (sp + 1)) (nI cs.length) cu = some (nI m, z, nI cs'.length, cuts') ∧ LB_X11_faultOf_149 (nI tl) (nI m) (nI kd) tape rw' (nI (notchN kd m)) (fun t => B_X11_faultOf_316 (nI tl) t.2.2.1 (nI m) (nI kd) t.2.2.2 tape rw') rec' nx (nI k) (nI ar) (nI (mask cs)) = some (-1, z', nI m, nI kd, nI (mask cs'), rw')) ∨ (∃ p z z' cc cuts' mk, p ≤ 60 ∧ LB_X9_readCuts_2 (nI tl) bytes (nI kd) (nI m) (fun t => B_X9_readCuts_122 t.2.1 t.2.2.1 t.2.2.2) rec (nI (k + 1)) (nI (sp + 1)) (nI cs.length) cu = some (-20 - nI p, z, cc, cuts') ∧ LB_X11_faultOf_149 (nI tl) (nI m) (nI kd) tape rw' (nI (notchN kd m)) (fun t => B_X11_faultOf_316 (nI tl) t.2.2.1 (nI m) (nI kd) t.2.2.2 tape rw') rec' nx (nI k) (nI ar) (nI (mask cs)) = some (nI p, z', nI m, nI kd, mk, rw')))) ∨ (∃ b1', LB_X11_faultOf_149 (nI tl) (nI m) (nI kd) tape rw' (nI (notchN kd m)) (fun t => B_X11_faultOf_316 (nI tl) t.2.2.1 (nI m) (nI kd) t.2.2.2 tape rw') rec' nx (nI k) (nI ar) (nI (mask cs)) = rec' b1' ∧ ∀ rec2, _) ∨ ∃ m' b1 b1', m' < 5 - k ∧ _ ∧ LB_X9_readCuts_2 (nI tl) bytes (nI kd) (nI m) (fun t => B_X9_readCuts_122 t.2.1 t.2.2.1 t.2.2.2) rec (nI (k + 1)) (nI (sp + 1)) (nI cs.length) cu = rec b1 ∧ LB_X11_faultOf_149 (nI tl) (nI m) (nI kd) tape rw' (nI (notchN kd m)) (fun t => B_X11_faultOf_316 (nI tl) t.2.2.1 (nI m) (nI kd) t.2.2.2 tape rw') rec' nx (nI k) (nI ar) (nI (mask cs)) = rec' b1'
  unfold LB_X9_readCuts_2 LB_X11_faultOf_149 B_X9_readCuts_58 B_X9_readCuts_98 f_X9_faultAt f_X9_readNumber
  rw [if_neg (show ¬ (5 : Int32) < nI (k + 1) from nI_nlt (a := 5) (by omega) (by decide)), if_neg (show ¬ (5 : Int32) ≤ nI k from nI_ge (b := 5) hk (by decide)), sight_ok htl hB (show sp + 1 ≤ tl by omega), ahead_ok htl hT har, hsk, hnx]
  simp only [Option.bind_some]
  rw [if_pos trivial, nI_1 sp, ahead_ok htl hT (show sp + 1 ≤ tl by omega), within_ok]
  simp only [Option.bind_some]
  generalize hqe : skp b tl (sp + 1) = q at *
  obtain ⟨p', x, y, e1, e2, hap, hp', hNR, hdg, hnd⟩ := number_ok htl hB hT hq (fun t => B_X9_readNumber_68 t.2 t.1) (fun t => B_X11_faultOf_264 (fun t => B_X11_faultOf_316 (nI tl) t.2.2.1 (nI m) (nI kd) t.2.2.2 tape rw') rec' t.2 (nI m) (nI kd) (nI (mask cs)) rw' (nI (notchN kd m)) (nI k) (nI q) t.1)
  have hin := SV_in (b := b) (tl := tl) (p := q) (lo := 48) (hi := 57) (fun h => by have := hB q h; omega) (by decide) (by decide)
  have e3 : B_X9_readNumber_68 (nI p') (nI x) = some (nI x, nI p') := rfl
  rw [e2]
  dsimp only
  unfold B_X11_faultOf_264 B_X11_faultOf_291
  by_cases c : (48 : Int32) ≤ SV b tl q ∧ SV b tl q ≤ 57
  · have hd := hin.mp c
    have hlt := hdg hd
    have hx24 : x ≤ 24 := by rcases hNR.2 with z | z <;> omega
    have hy2 := hNR.1
    rw [if_pos c, if_neg n10, e1, e3, if_neg (show ¬ nI p' = nI q from fun z => by have := (nI_eq (by omega) (by omega)).mp z; omega)]
    simp only [Option.bind_some]
    rw [hasNotch_n hkd hm1 hm (by omega)]
    simp only [Option.bind_some]
    by_cases cx : x < notchN kd m
    · have hyx : y = x := by rcases hNR.2 with z | z <;> omega
      subst hyx
      obtain ⟨z, ez, hz⟩ := placeOf_ok (c := y) (by omega) hb24 (by omega) c3
      rw [if_pos cx, if_neg n10, if_neg (nI_ge cx (by omega)), ez, hasM c1 (fun c hc => by have := hb24 c hc; omega) (by omega)]
      simp only [Option.bind_some]
      rcases hz with ⟨hnin, rfl⟩ | ⟨i, hi, hci, rfl⟩
      · obtain ⟨P, f, hP, eo, hso, hfo⟩ := open_ok c1 (by omega) hb24 (show y < 24 by omega) hnin c3
        have hs' := skp_le (b := b) hp'
        have hss' := skp_skp (b := b) hp'
        have emask : nI (mask cs) ||| ((1 : Int32) <<< (nI y &&& 31)) = nI (mask (insAt cs P y)) := by
          rw [shl31 (by omega), or_n]
          congr 1
          refine mask_ext (ds := []) hso (fun j => ?_)
          rw [Nat.testBit_or, mask_bit cs c1, Nat.testBit_two_pow]
          by_cases h1 : j ∈ cs
          · rw [decide_eq_true h1, decide_eq_true (insAt_mem.mpr (Or.inr h1))]; rfl
          · rw [decide_eq_false h1, Bool.false_or]
            by_cases h2 : y = j
            · rw [decide_eq_true h2, decide_eq_true (insAt_mem.mpr (Or.inl h2.symm))]
            · rw [decide_eq_false h2, decide_eq_false (fun z => by
                rcases insAt_mem.mp z with z | z
                · exact h2 z.symm
                · exact h1 z)]
        have hlen : (insAt cs P y).length = k + 1 := by rw [insAt_len hP, hck]
        have hCR : CutR kd m (insAt cs P y) f := ⟨hso, fun c hc => by
          rcases insAt_mem.mp hc with rfl | hc
          · exact cx
          · exact c2 c hc, fun i hi => hfo i (by rw [insAt_len hP] at hi; exact hi)⟩
        rw [if_pos (show (-1 : Int32) < 0 by decide), if_neg hnin, if_pos rfl, eo, emask, nI_1 k]
        simp only [Option.bind_some]
        rw [sight_ok htl hB hp']
        simp only [Option.bind_some]
        generalize hse : skp b tl p' = s' at *
        have svp : ¬ SV b tl s' = -1 → s' < tl ∧ (0 : Int32) ≤ SV b tl s' := fun z => by
          unfold SV at z ⊢
          by_cases c5 : s' < tl
          · have := hB s' c5
            rw [if_pos c5]; exact ⟨c5, nI_pos' (by omega)⟩
          · rw [if_neg c5] at z; exact absurd rfl z
        have b316 : ∀ z, z ≤ tl → skp b tl z = s' → B_X11_faultOf_316 (nI tl) (nI z) (nI m) (nI kd) (nI (mask (insAt cs P y))) tape rw' = some (if (0 : Int32) ≤ SV b tl s' then nI s' else -1, nI s', nI m, nI kd, nI (mask (insAt cs P y)), rw') := fun z z1 z2 => by
          unfold B_X11_faultOf_316 B_X11_faultOf_331
          rw [ahead_ok htl hT z1, z2]
          simp only [Option.bind_some]
          by_cases c6 : (0 : Int32) ≤ SV b tl s'
          · rw [if_pos c6, if_pos c6]
          · rw [if_neg c6, if_neg c6]
        have fin : (k + 1 = 5 ∨ ¬ SV b tl s' = 44) → ∀ rec2, LB_X11_faultOf_149 (nI tl) (nI m) (nI kd) tape rw' (nI (notchN kd m)) (fun t => B_X11_faultOf_316 (nI tl) t.2.2.1 (nI m) (nI kd) t.2.2.2 tape rw') rec2 44 (nI (k + 1)) (nI p') (nI (mask (insAt cs P y))) = some (if (0 : Int32) ≤ SV b tl s' then nI s' else -1, nI s', nI m, nI kd, nI (mask (insAt cs P y)), rw') := fun hor rec2 => by
          unfold LB_X11_faultOf_149
          by_cases c7 : k + 1 = 5
          · rw [if_pos (show (5 : Int32) ≤ nI (k + 1) from nI_le (a := 5) (by omega) (by omega))]
            exact b316 p' hp' hse
          · rw [if_neg (show ¬ (5 : Int32) ≤ nI (k + 1) from nI_ge (b := 5) (by omega) (by decide)), ahead_ok htl hT hp', hse]
            simp only [Option.bind_some]
            rw [if_neg (hor.resolve_left c7)]
            exact b316 s' hs' hss'
        by_cases cE : SV b tl s' = -1
        · rw [if_pos cE]
          refine Or.inr (Or.inl ⟨_, rfl, fun rec2 => Or.inl ⟨insAt cs P y, nI s', nI s', f, by omega, hCR, by rw [hlen, hck], ?_⟩⟩)
          refine (fin (Or.inr (by rw [cE]; decide)) rec2).trans ?_
          rw [cE, if_neg (show ¬ (0 : Int32) ≤ -1 by decide)]
        · have hs0 := svp cE
          rw [if_neg cE]
          by_cases cC : SV b tl s' = 44
          · rw [if_pos cC]
            by_cases c5 : k + 1 = 5
            · rw [if_pos (show nI (k + 1) = 5 by rw [c5]; rfl)]
              refine Or.inr (Or.inl ⟨_, rfl, fun rec2 => Or.inr ⟨s', nI s', nI s', nI (cs.length + 1), f, nI (mask (insAt cs P y)), by omega, rfl, ?_⟩⟩)
              refine (fin (Or.inl c5) rec2).trans ?_
              rw [if_pos hs0.2]
            · rw [if_neg (show ¬ nI (k + 1) = 5 from fun z => c5 ((nI_eq (b := 5) (by omega) (by decide)).mp z)), nI_1 (k + 1), nI_1 s']
              refine Or.inr (Or.inr ⟨5 - (k + 1), _, _, by omega, ⟨k + 1, s', p', 44, insAt cs P y, f, by rw [hlen, hck], rfl, by omega, rfl, hlen, hCR, hs0.1, hp', hse, cC⟩, rfl, rfl⟩)
          · rw [if_neg cC]
            refine Or.inr (Or.inl ⟨_, rfl, fun rec2 => Or.inr ⟨s', nI s', nI s', nI (cs.length + 1), f, nI (mask (insAt cs P y)), by omega, rfl, ?_⟩⟩)
            refine (fin (Or.inr cC) rec2).trans ?_
            rw [if_pos hs0.2]
      · have hin2 : y ∈ cs := by rw [← hci]; exact gD_mem hi
        rw [if_neg (nI_pos (by omega)), if_pos hin2, if_neg n10]
        exact Or.inl (Or.inr ⟨q, _, _, _, _, _, by omega, rfl, rfl⟩)
    · have hyn : notchN kd m ≤ y := by rcases hNR.2 with z | z <;> omega
      rw [if_neg cx, if_pos rfl, if_pos (nI_le hyn (by omega))]
      exact Or.inl (Or.inr ⟨q, _, _, _, _, _, by omega, rfl, rfl⟩)
  · rw [if_neg c, if_pos rfl, if_pos (show nI p' = nI q by rw [hnd (fun z => c (hin.mpr z))])]
    left
    right
    exact ⟨q, _, _, _, _, _, by omega, rfl, rfl⟩
