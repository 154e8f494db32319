/-! handed: all of the class -/
theorem lookBack_ok {g : Nat → Nat} {L : Nat} {D : Nat → Nat} {n : Nat} (hL : L ≤ 11) (hn1 : 1 ≤ n) (hn : n ≤ 60) (hD : ∀ d, d ≤ 60 → D d < 2 ^ 30) (hmo : ∀ d, D d ≤ D (d + 1)) (hG : ∀ d, 1 ≤ d → d ≤ n → Gd g L D d ≠ []) {whole : Int32} {ends order : Nat → Int32} (hS : GS (ws g L) (2 ^ L) whole ends order) {dues : Nat → Int32} (hd : ∀ d, d ≤ 60 → dues d = nI (D d)) (notes la : Nat → Int32) : ∃ n', f_X6_lookBack 61 whole ends order notes la dues (nI n) = some (nI n, n', va_cpy dues la (0 : Int32).toNatClampNeg (0 : Int32).toNatClampNeg (61 : Int32).toNatClampNeg) ∧ NoI (Gd g L D) n 1 n' := by
  have hN := p11 hL
  have hp0 := Nat.two_pow_pos L
  have mono : ∀ a k, D a ≤ D (a + k) := fun a k => by
    induction k with
    | zero => exact Nat.le_refl _
    | succ k ih => have := hmo (a + k); rw [show a + (k + 1) = a + k + 1 by omega]; omega
  obtain ⟨a, e1, e2, h1, h2⟩ := hS (D n) (hD n hn)
  unfold f_X6_lookBack L_X6_lookBack_8
  have ib : inb (nI n) 61 = true := inb_nI (by omega) (by decide)
  rw [ob_t ib, nI_clamp (by omega), hd n hn, e1, Option.bind_some]
  obtain ⟨n1, ⟨-, f1⟩, q1⟩ := upK (fun rec t => LB_X6_lookBack_8 61 whole ends order dues (nI n) (fun t => B_X6_lookBack_37 61 whole ends order t.2 la dues (nI n)) rec t.1 t.2) (fun t => B_X6_lookBack_37 61 whole ends order t.2 la dues (nI n)) (a + (grp (ws g L) (D n) (2 ^ L)).length) (fun j s => a ≤ j ∧ ∀ i, i < j - a → s ((grp (ws g L) (D n) (2 ^ L)).getD i 0) = nI 0) (by omega) (fun j s hj hI rec => by
      obtain ⟨j0, i1⟩ := hI
      obtain ⟨i, rfl⟩ : ∃ i, j = a + i := ⟨j - a, by omega⟩
      rw [show a + i - a = i by omega] at i1
      have hil : i < (grp (ws g L) (D n) (2 ^ L)).length := by omega
      have hm := gD_grp hil
      refine ⟨upd s ((grp (ws g L) (D n) (2 ^ L)).getD i 0) (nI 0), ⟨by omega, fun k hk => ?_⟩, ?_⟩
      · rw [show a + i + 1 - a = i + 1 by omega] at hk
        by_cases c : k = i
        · rw [c, pk_us]
        · rw [pk_un (fun z => c (grp_inj (by omega) hil z))]; exact i1 k (by omega)
      · show LB_X6_lookBack_8 _ _ _ _ _ _ _ rec (nI (a + i)) s = _
        unfold LB_X6_lookBack_8
        rw [ob_t ib, nI_clamp (by omega), hd n hn, e2, Option.bind_some, if_neg (nI_ge (by omega) (by omega)), ob_t (inb_nI (by omega) (by decide)), nI_clamp (by omega), h2 i hil, ob_t (inb_nI (by omega) (by decide)), nI_clamp (by omega), nI_1]
        rfl) (fun s _ rec => by
      show LB_X6_lookBack_8 _ _ _ _ _ _ _ rec (nI (a + (grp (ws g L) (D n) (2 ^ L)).length)) s = _
      unfold LB_X6_lookBack_8
      rw [ob_t ib, nI_clamp (by omega), hd n hn, e2, Option.bind_some, if_pos (nI_le (Nat.le_refl _) (by omega))]) (j := a) (s := notes) (by omega) ⟨Nat.le_refl _, fun i hi => absurd hi (by omega)⟩
  refine (Exists.imp fun n' => And.imp_left fun z => q1.trans z) ?_
  rw [show a + (grp (ws g L) (D n) (2 ^ L)).length - a = (grp (ws g L) (D n) (2 ^ L)).length by omega] at f1
  have hI0 : NoI (Gd g L D) n n n1 := fun d' h3 h4 S hS2 => by
    have : d' = n := by omega
    subst this
    obtain ⟨i, k1, k2⟩ := mem_gD hS2
    rw [← k2, Nat.sub_self]
    exact f1 i k1
  show ∃ n', B_X6_lookBack_37 61 whole ends order n1 la dues (nI n) = _ ∧ _
  unfold B_X6_lookBack_37 L_X6_lookBack_41
  rw [show nI n - (1 : Int32) = nI (n - 1) from pk_sub (b := 1) (by omega)]
  refine loopR _ (fun o => ∃ n', o = some (nI n, n', va_cpy dues la (0 : Int32).toNatClampNeg (0 : Int32).toNatClampNeg (61 : Int32).toNatClampNeg) ∧ NoI (Gd g L D) n 1 n') (fun m t => ∃ s, t = (nI m, s) ∧ m + 1 ≤ n ∧ NoI (Gd g L D) n (m + 1) s) ?_ FUEL (n - 1) _ ⟨n1, rfl, by omega, by rw [show n - 1 + 1 = n by omega]; exact hI0⟩ (fuel_lt (by omega))
  rintro m t ⟨s, rfl, hm, hI⟩ rec
  have bnd : ∀ d', m + 1 ≤ d' → d' ≤ n → ∀ T, T ∈ Gd g L D d' → s T = nI (Hk (Gd g L D) n (n - d') T) ∧ Hk (Gd g L D) n (n - d') T < 2 ^ 20 := fun d' h3 h4 T hT => by
    have := Hk_le hG (n - d') T (by omega)
    exact ⟨hI d' h3 h4 T hT, by omega⟩
  cases m with
  | zero =>
    left
    refine ⟨s, ?_, hI⟩
    show LB_X6_lookBack_41 _ _ _ _ _ _ rec (nI 0) s = _
    unfold LB_X6_lookBack_41
    rw [if_pos (show nI 0 < (1 : Int32) by decide)]
    show B_X6_lookBack_75 _ _ _ _ _ = _
    unfold B_X6_lookBack_75
    rw [ob_t (by decide)]
  | succ m =>
    right
    have ia : inb (nI (m + 1)) 61 = true := inb_nI (by omega) (by decide)
    have ib2 : inb (nI (m + 1 + 1)) 61 = true := inb_nI (by omega) (by decide)
    have c1 : ¬ nI (m + 1) < (1 : Int32) := nI_nlt (b := 1) (by omega) (by omega)
    by_cases c : D (m + 1) = D (m + 1 + 1)
    · refine ⟨m, (nI m, s), by omega, ⟨s, rfl, by omega, fun d' h3 h4 S hS2 => ?_⟩, ?_⟩
      · by_cases e : d' = m + 1
        · subst e
          have hS3 : S ∈ Gd g L D (m + 1 + 1) := by unfold Gd at hS2 ⊢; rw [← c]; exact hS2
          rw [hI (m + 1 + 1) (by omega) (by omega) S hS3]
          have := Hk_same (G := Gd g L D) (n := n) (S := S) hn hG (k := n - (m + 1 + 1)) (by omega) (by rw [show n - (n - (m + 1 + 1)) = m + 1 + 1 by omega]; exact hS3)
          rw [← this, show n - (m + 1 + 1) + 1 = n - (m + 1) by omega]
        · exact hI d' (by omega) h4 S hS2
      · show LB_X6_lookBack_41 _ _ _ _ _ _ rec (nI (m + 1)) s = _
        unfold LB_X6_lookBack_41 B_X6_lookBack_69
        rw [if_neg c1, nI_1, ob_t ia, ob_t ib2, nI_clamp (by omega), nI_clamp (by omega), hd _ (by omega), hd _ (by omega), c, if_pos rfl, pk_m1]
    · obtain ⟨n', eN, k1, k2⟩ := lookAhead_ok (notes := s) hS hN (hD (m + 1) (by omega)) (hD (m + 1 + 1) (by omega)) c (bnd (m + 1 + 1) (by omega) (by omega)) (hG _ (by omega) (by omega))
      refine ⟨m, (nI m, n'), by omega, ⟨n', rfl, by omega, fun d' h3 h4 S hS2 => ?_⟩, ?_⟩
      · by_cases e : d' = m + 1
        · subst e
          obtain ⟨T, bT, eT⟩ := k1 S hS2
          rw [eT]
          have e9 := Hk_BT (G := Gd g L D) (n := n) (S := S) (T := T) hn hG (k := n - (m + 1 + 1)) (by omega) (by rw [show n - (n - (m + 1 + 1)) = m + 1 + 1 by omega]; exact bT)
          rw [← e9, show n - (m + 1 + 1) + 1 = n - (m + 1) by omega]
        · rw [k2 S (fun z => ?_)]
          · exact hI d' (by omega) h4 S hS2
          · have z1 := ((grp_mem (ws g L) (D (m + 1)) (2 ^ L) S).mp z).2
            have z2 := ((grp_mem (ws g L) (D d') (2 ^ L) S).mp hS2).2
            have z3 := hmo (m + 1)
            have z4 := mono (m + 1 + 1) (d' - (m + 1 + 1))
            rw [show m + 1 + 1 + (d' - (m + 1 + 1)) = d' by omega] at z4
            omega
      · show LB_X6_lookBack_41 _ _ _ _ _ _ rec (nI (m + 1)) s = _
        unfold LB_X6_lookBack_41 B_X6_lookBack_69
        rw [if_neg c1, nI_1, ob_t ia, ob_t ib2, nI_clamp (by omega), nI_clamp (by omega), hd _ (by omega), hd _ (by omega), if_neg (fun z => c ((nI_eq (by have := hD (m + 1) (by omega); omega) (by have := hD (m + 1 + 1) (by omega); omega)).mp z)), ob_t ia, ob_t ib2, eN, Option.bind_some, pk_m1]
theorem handedInAll_ok {g : Nat → Nat} {L : Nat} {D : Nat → Nat} {n : Nat} (hL : L ≤ 11) (hn1 : 1 ≤ n) (hn : n ≤ 60) (hD : ∀ d, d ≤ 60 → D d < 2 ^ 30) (hG : ∀ d, 1 ≤ d → d ≤ n → Gd g L D d ≠ []) {whole : Int32} {ends order : Nat → Int32} (hS : GS (ws g L) (2 ^ L) whole ends order) {dues : Nat → Int32} (hd : ∀ d, d ≤ 60 → dues d = nI (D d)) {notes : Nat → Int32} (hI : NoI (Gd g L D) n 1 notes) : f_X6_handedInAll 61 whole ends order notes dues = some (nI (Hk (Gd g L D) n n 0)) := by
  have hN := p11 hL
  have hb : ∀ T, T ∈ Gd g L D 1 → notes T = nI (Hk (Gd g L D) n (n - 1) T) ∧ Hk (Gd g L D) n (n - 1) T < 2 ^ 20 := fun T hT => by
    have := Hk_le hG (n - 1) T (by omega)
    exact ⟨hI 1 (by omega) (by omega) T hT, by omega⟩
  obtain ⟨T, eT, bT⟩ := follower_ok (S := 0) hS hN (hD 1 (by omega)) (by decide) hb (hG 1 (by omega) (by omega))
  have hT := (grp_mem (ws g L) (D 1) (2 ^ L) T).mp bT.1
  unfold f_X6_handedInAll
  rw [ob_t (by decide), show dues (1 : Int32).toNatClampNeg = nI (D 1) from hd 1 (by omega)]
  have eT' : f_X6_follower whole ends order notes 0 (nI (D 1)) = some (nI T) := eT
  have eh : f_X6_handedTo notes 0 (nI T) = some (nI (pc (0 ^^^ T) + Hk (Gd g L D) n (n - 1) T)) := handedTo_ok (S := 0) (h := fun T => Hk (Gd g L D) n (n - 1) T) (by decide) (by omega) (hb T bT.1).1
  rw [eT', Option.bind_some, eh, Option.bind_some]
  have e9 := Hk_BT (G := Gd g L D) (n := n) (S := 0) (T := T) hn hG (k := n - 1) (by omega) (by rw [show n - (n - 1) = 1 by omega]; exact bT)
  rw [show n - 1 + 1 = n by omega] at e9
  rw [e9]
/-! handed: what is kept for a next call -/
theorem ws_fext {g g' : Nat → Nat} : ∀ {k : Nat}, (∀ i, i < k → g i = g' i) → ws g k = ws g' k
  | 0, _ => funext fun S => rfl
  | k + 1, h => funext fun S => by
    show ws g k S + (if S.testBit k = true then g k else 0) = ws g' k S + (if S.testBit k = true then g' k else 0)
    rw [ws_fext (k := k) (fun i hi => h i (by omega)), h k (by omega)]
theorem ws_two (g : Nat → Nat) {i : Nat} : ∀ {k : Nat}, ws g k (2 ^ i) = if i < k then g i else 0
  | 0 => by rw [if_neg (by omega)]; rfl
  | k + 1 => by
    show ws g k (2 ^ i) + (if (2 ^ i).testBit k = true then g k else 0) = _
    rw [ws_two g (k := k), Nat.testBit_two_pow]
    by_cases c : i = k
    · rw [if_neg (by omega), if_pos (decide_eq_true c), if_pos (by omega), c, Nat.zero_add]
    · rw [if_neg (fun z => c (of_decide_eq_true z)), Nat.add_zero]
      by_cases d : i < k
      · rw [if_pos d, if_pos (by omega)]
      · rw [if_neg d, if_neg (by omega)]
theorem Hk_congr {G G' : Nat → List Nat} {n : Nat} (h : ∀ d, 1 ≤ d → d ≤ n → G d = G' d) : ∀ k, k ≤ n → Hk G n k = Hk G' n k
  | 0, _ => funext fun S => rfl
  | k + 1, hk => funext fun S => by
    show mnF (fun T => pc (S ^^^ T) + Hk G n k T) (G (n - k)) 1000000 = mnF (fun T => pc (S ^^^ T) + Hk G' n k T) (G' (n - k)) 1000000
    rw [Hk_congr h k (by omega), h (n - k) (by omega) (by omega)]
theorem NoI_congr {G G' : Nat → List Nat} {n : Nat} {notes : Nat → Int32} (h : ∀ d, 1 ≤ d → d ≤ n → G d = G' d) (hI : NoI G n 1 notes) : NoI G' n 1 notes := fun d h1 h2 S hS => by
  rw [← Hk_congr h (n - d) (by omega)]
  exact hI d h1 h2 S (by rw [h d h1 h2]; exact hS)
theorem hlbD {q : Nat} (hq : q ≤ 60) {D D' : Nat → Nat} {dues la : Nat → Int32} (hD : ∀ d, d ≤ 60 → D d < 2 ^ 30) (hd : ∀ d, d ≤ 60 → dues d = nI (D d)) (hl : ∀ d, d ≤ 60 → D' d < 2 ^ 30 ∧ la d = nI (D' d)) : B_X6_hasLookedBack_60 61 la dues (nI q) = some 0 ∨ (B_X6_hasLookedBack_60 61 la dues (nI q) = some 1 ∧ ∀ e, 1 ≤ e → e ≤ q → D' e = D e) := by
  unfold B_X6_hasLookedBack_60 L_X6_hasLookedBack_63
  refine loopR _ (fun o => o = some 0 ∨ (o = some 1 ∧ ∀ e, 1 ≤ e → e ≤ q → D' e = D e)) (fun m t => ∃ d, t = nI (d + 1) ∧ d ≤ q ∧ m = q - d ∧ ∀ e, 1 ≤ e → e ≤ d → D' e = D e) ?_ FUEL q _ ⟨0, rfl, Nat.zero_le _, rfl, fun e h1 h2 => absurd h1 (by omega)⟩ (fuel_lt (by omega))
  rintro m t ⟨d, rfl, hdq, rfl, hI⟩ rec
  by_cases c : d = q
  · subst c
    refine Or.inl (Or.inr ⟨?_, hI⟩)
    show LB_X6_hasLookedBack_63 _ _ _ _ _ rec (nI (d + 1)) = _
    unfold LB_X6_hasLookedBack_63
    rw [if_pos (nI_lt (by omega) (by omega))]
    rfl
  · obtain ⟨h2, h3⟩ := hl (d + 1) (by omega)
    have h1 := hD (d + 1) (by omega)
    have hcode : LB_X6_hasLookedBack_63 61 la dues (nI q) (fun _ => B_X6_hasLookedBack_91) rec (nI (d + 1)) = if D' (d + 1) = D (d + 1) then rec (nI (d + 1 + 1)) else some 0 := by
      unfold LB_X6_hasLookedBack_63
      have ib : inb (nI (d + 1)) 61 = true := inb_nI (by omega) (by decide)
      rw [if_neg (nI_nlt (by omega) (by omega)), ob_t ib, ob_t ib, nI_clamp (by omega), hd (d + 1) (by omega), h3, nI_1]
      by_cases e : D' (d + 1) = D (d + 1)
      · rw [if_pos (by rw [e]), if_pos e]
      · rw [if_neg (fun z => e ((nI_eq (by omega) (by omega)).mp z)), if_neg e]
    by_cases e : D' (d + 1) = D (d + 1)
    · rw [if_pos e] at hcode
      refine Or.inr ⟨q - (d + 1), nI (d + 1 + 1), by omega, ⟨d + 1, rfl, by omega, rfl, fun x x1 x2 => ?_⟩, hcode⟩
      by_cases y : x = d + 1
      · rw [y]; exact e
      · exact hI x x1 (by omega)
    · rw [if_neg e] at hcode
      exact Or.inl (Or.inl hcode)
theorem hlbP {q L : Nat} (hq : q ≤ 60) (hL : L ≤ 11) {g g' D D' : Nat → Nat} {v wo dues la : Nat → Int32} (hv : ∀ i, i < L → v i = nI (g i)) (hg : ∀ i, i < L → g i < 2 ^ 20) (hw : ∀ i, i < L → g' i < 2 ^ 20 ∧ wo (2 ^ i) = nI (g' i)) (hD : ∀ d, d ≤ 60 → D d < 2 ^ 30) (hd : ∀ d, d ≤ 60 → dues d = nI (D d)) (hl : ∀ d, d ≤ 60 → D' d < 2 ^ 30 ∧ la d = nI (D' d)) : f_X6_hasLookedBack 61 (nI L) (nI q) wo la (nI L) v dues (nI q) = some 0 ∨ (f_X6_hasLookedBack 61 (nI L) (nI q) wo la (nI L) v dues (nI q) = some 1 ∧ (∀ i, i < L → g' i = g i) ∧ ∀ e, 1 ≤ e → e ≤ q → D' e = D e) := by
  unfold f_X6_hasLookedBack L_X6_hasLookedBack_24
  rw [if_pos rfl, if_pos rfl]
  refine loopR _ (fun o => o = some 0 ∨ (o = some 1 ∧ (∀ i, i < L → g' i = g i) ∧ ∀ e, 1 ≤ e → e ≤ q → D' e = D e)) (fun m t => ∃ i, t = nI i ∧ i ≤ L ∧ m = L - i ∧ ∀ k, k < i → g' k = g k) ?_ FUEL L _ ⟨0, rfl, Nat.zero_le _, rfl, fun k hk => absurd hk (by omega)⟩ (fuel_lt (by omega))
  rintro m t ⟨i, rfl, hi, rfl, hI⟩ rec
  by_cases c : i = L
  · subst c
    have hcode : LB_X6_hasLookedBack_24 (nI i) wo v (fun _ => B_X6_hasLookedBack_60 61 la dues (nI q)) rec (nI i) = B_X6_hasLookedBack_60 61 la dues (nI q) := by
      unfold LB_X6_hasLookedBack_24
      rw [if_pos (nI_le (Nat.le_refl _) (by omega))]
    rcases hlbD hq hD hd hl with h | ⟨h, h2⟩
    · exact Or.inl (Or.inl (hcode.trans h))
    · exact Or.inl (Or.inr ⟨hcode.trans h, hI, h2⟩)
  · have hil : i < L := by omega
    obtain ⟨h2, h3⟩ := hw i hil
    have h1 := hg i hil
    have hp : 2 ^ i < 2048 := by
      have h9 := p11 (L := i + 1) (by omega)
      rw [Nat.pow_succ] at h9
      have := Nat.two_pow_pos i
      omega
    have hcode : LB_X6_hasLookedBack_24 (nI L) wo v (fun _ => B_X6_hasLookedBack_60 61 la dues (nI q)) rec (nI i) = if g' i = g i then rec (nI (i + 1)) else some 0 := by
      unfold LB_X6_hasLookedBack_24
      rw [if_neg (nI_ge hil (by omega)), shl31 (by omega), ob_t (inb_nI hp (by decide)), ob_t (inb_nI (by omega) (by decide)), nI_clamp (by omega), nI_clamp (by omega), h3, hv i hil, nI_1]
      by_cases e : g' i = g i
      · rw [if_pos (by rw [e]), if_pos e]
      · rw [if_neg (fun z => e ((nI_eq (by omega) (by omega)).mp z)), if_neg e]
    by_cases e : g' i = g i
    · rw [if_pos e] at hcode
      refine Or.inr ⟨L - (i + 1), nI (i + 1), by omega, ⟨i + 1, rfl, by omega, rfl, fun x x1 => ?_⟩, hcode⟩
      by_cases y : x = i
      · rw [y]; exact e
      · exact hI x (by omega)
    · rw [if_neg e] at hcode
      exact Or.inl (Or.inl hcode)
theorem hlb_ok {whole pcn lb : Int32} {wo la ends order notes : Nat → Int32} (hH : RelH whole pcn lb wo la ends order notes) {q L : Nat} (hq1 : 1 ≤ q) (hq : q ≤ 60) (hL : L ≤ 11) {g D : Nat → Nat} {v dues : Nat → Int32} (hv : ∀ i, i < L → v i = nI (g i)) (hg : ∀ i, i < L → g i < 2 ^ 20) (hD : ∀ d, d ≤ 60 → D d < 2 ^ 30) (hd : ∀ d, d ≤ 60 → dues d = nI (D d)) : f_X6_hasLookedBack 61 pcn lb wo la (nI L) v dues (nI q) = some 0 ∨ (f_X6_hasLookedBack 61 pcn lb wo la (nI L) v dues (nI q) = some 1 ∧ GS (ws g L) (2 ^ L) whole ends order ∧ NoI (Gd g L D) q 1 notes) := by
  rcases hH with rfl | ⟨q', L', g', D', k1, k2, k3, rfl, rfl, k4, k5, k6, k7⟩
  · left
    unfold f_X6_hasLookedBack
    rw [if_neg (fun z => nI_nz (by omega) (show ¬ q = 0 by omega) z.symm)]
    rfl
  · by_cases c1 : q' = q
    · subst c1
      by_cases c2 : L' = L
      · subst c2
        rcases hlbP k2 k3 hv hg k4 hD hd k5 with h | ⟨h, hg', hD'⟩
        · exact Or.inl h
        · have eG : ∀ d, 1 ≤ d → d ≤ q' → Gd g' L' D' d = Gd g L' D d := fun d d1 d2 => by
            unfold Gd
            rw [ws_fext hg', hD' d d1 d2]
          refine Or.inr ⟨h, ?_, NoI_congr eG k7⟩
          rw [← ws_fext hg']; exact k6
      · left
        unfold f_X6_hasLookedBack
        rw [if_pos rfl, if_neg (fun z => c2 ((nI_eq (by omega) (by omega)).mp z))]
        rfl
    · left
      unfold f_X6_hasLookedBack
      rw [if_neg (fun z => c1 ((nI_eq (by omega) (by omega)).mp z))]
      rfl
theorem onCounter_ok {g : Nat → Nat} {L : Nat} {D : Nat → Nat} {n day : Nat} (hL : L ≤ 11) (hn : n ≤ 60) (hday : day ≤ n) (hD : ∀ d, d ≤ 60 → D d < 2 ^ 30) (hG : ∀ d, 1 ≤ d → d ≤ n → Gd g L D d ≠ []) {whole : Int32} {ends order : Nat → Int32} (hS : GS (ws g L) (2 ^ L) whole ends order) {dues : Nat → Int32} (hd : ∀ d, d ≤ 60 → dues d = nI (D d)) {notes : Nat → Int32} (hI : NoI (Gd g L D) n 1 notes) : ∃ S, f_X6_onCounter 61 whole ends order notes dues (nI day) = some (nI S) ∧ Tr (Gd g L D) n day S := by
  have hN := p11 hL
  unfold f_X6_onCounter L_X6_onCounter_5
  refine loopR _ (fun o => ∃ S, o = some (nI S) ∧ Tr (Gd g L D) n day S) (fun m t => ∃ d S, t = (nI S, nI (d + 1)) ∧ d ≤ day ∧ m = day - d ∧ S < 2048 ∧ Tr (Gd g L D) n d S) ?_ FUEL day _ ⟨0, 0, rfl, by omega, rfl, by decide, rfl⟩ (fuel_lt (by omega))
  rintro m t ⟨d, S, rfl, hdd, rfl, hS2, hT⟩ rec
  by_cases c : d = day
  · subst c
    refine Or.inl ⟨S, ?_, hT⟩
    show LB_X6_onCounter_5 _ _ _ _ _ _ _ _ rec (nI S) (nI (d + 1)) = _
    unfold LB_X6_onCounter_5
    rw [if_pos (nI_lt (by omega) (by omega))]
    rfl
  · obtain ⟨T, eT, bT⟩ := follower_ok (notes := notes) (S := S) (h := fun T => Hk (Gd g L D) n (n - (d + 1)) T) hS hN (hD (d + 1) (by omega)) hS2 (fun T hT => ⟨hI (d + 1) (by omega) (by omega) T hT, by have := Hk_le hG (n - (d + 1)) T (by omega); omega⟩) (hG (d + 1) (by omega) (by omega))
    have hT2 := (grp_mem (ws g L) (D (d + 1)) (2 ^ L) T).mp bT.1
    refine Or.inr ⟨day - (d + 1), (nI T, nI (d + 1 + 1)), by omega, ⟨d + 1, T, rfl, by omega, rfl, by omega, S, hT, bT⟩, ?_⟩
    show LB_X6_onCounter_5 _ _ _ _ _ _ _ _ rec (nI S) (nI (d + 1)) = _
    unfold LB_X6_onCounter_5
    rw [if_neg (nI_nlt (by omega) (by omega)), ob_t (inb_nI (by omega) (by decide)), nI_clamp (by omega), hd _ (by omega), eT, Option.bind_some, nI_1]
/-! handed: the reference -/
def hv (g : Nat → Nat) (L : Nat) (D : Nat → Nat) (n d S : Nat) : Nat := if d = n then 0 else if ws g L S = D d then Hk (Gd g L D) n (n - d) S else 1000000
theorem hv_in {g : Nat → Nat} {L : Nat} {D : Nat → Nat} {n d S : Nat} (hdn : d ≤ n) (h : ws g L S = D d) : hv g L D n d S = Hk (Gd g L D) n (n - d) S := by
  unfold hv
  by_cases c : d = n
  · rw [if_pos c, c, Nat.sub_self]; rfl
  · rw [if_neg c, if_pos h]
theorem handLeast {g : Nat → Nat} {L : Nat} {D : Nat → Nat} {n d S : Nat} (hL : L ≤ 11) (hn : n ≤ 60) (hdn : d ≤ n) (hg : pre g L ≤ 216) (hD : ∀ d, d ≤ 60 → D d < 2 ^ 30) (hG : ∀ d, 1 ≤ d → d ≤ n → Gd g L D d ≠ []) (hS : S < 2 ^ L) {dues wo hands : Nat → Int32} (hd : ∀ d, d ≤ 60 → dues d = nI (D d)) (hwo : ∀ S, S < 2 ^ L → wo S = nI (ws g L S)) (hh : d < n → ∀ T, T < 2 ^ L → hands (2048 * (d + 1) + T) = nI (hv g L D n (d + 1) T)) (kx : Int32 × Int32 → Option (Int32 × Int32 × (Nat → Int32) × (Nat → Int32) × (Nat → Int32) × (Nat → Int32) × (Nat → Int64) × (Nat → Int32) × (Nat → Int32))) : ∃ z, L_X11_handed_92 dues wo hands (nI n) (nI (2 ^ L)) (nI d) (nI S) kx FUEL ((if d = n then nI 0 else nI 1000000), 0) = kx (nI (hv g L D n d S), z) := by
  have hN := p11 hL
  have hp0 := Nat.two_pow_pos L
  unfold L_X11_handed_92
  have iS : inb (nI S) 2048 = true := inb_nI (by omega) (by decide)
  have id : inb (nI d) 61 = true := inb_nI (by omega) (by decide)
  have hDd := hD d (by omega)
  have hwS := ws_le g L S
  have first : ∀ (x : Int32) (j : Nat) (rec : Int32 × Int32 → Option (Int32 × Int32 × (Nat → Int32) × (Nat → Int32) × (Nat → Int32) × (Nat → Int32) × (Nat → Int64) × (Nat → Int32) × (Nat → Int32))), j < 2 ^ L → ¬ (d < n ∧ ws g L S = D d) → LB_X11_handed_92 dues wo hands (nI n) (nI (2 ^ L)) (nI d) (nI S) kx rec x (nI j) = kx (x, nI j) := fun x j rec hj hc => by
    unfold LB_X11_handed_92
    rw [if_neg (nI_ge hj (by omega))]
    by_cases c : n ≤ d
    · rw [if_pos (nI_le c (by omega))]
    · rw [if_neg (nI_ge (by omega) (by omega)), ob_t iS, ob_t id, nI_clamp (by omega), nI_clamp (by omega), hwo S hS, hd d (by omega), if_neg (fun z => hc ⟨by omega, (nI_eq (by omega) (by omega)).mp z⟩)]
  by_cases hc : d < n ∧ ws g L S = D d
  · rw [if_neg (by omega)]
    have ev : hv g L D n d S = mnF (fun T => pc (S ^^^ T) + Hk (Gd g L D) n (n - (d + 1)) T) (grp (ws g L) (D (d + 1)) (2 ^ L)) 1000000 := by
      rw [hv_in hdn hc.2, show n - d = n - (d + 1) + 1 by omega]
      show mnF _ (Gd g L D (n - (n - (d + 1)))) _ = _
      rw [show n - (n - (d + 1)) = d + 1 by omega]
      rfl
    have hDd1 := hD (d + 1) (by omega)
    rw [ev]
    refine loopR _ (fun o => ∃ z, o = kx (nI (mnF (fun T => pc (S ^^^ T) + Hk (Gd g L D) n (n - (d + 1)) T) (grp (ws g L) (D (d + 1)) (2 ^ L)) 1000000), z)) (fun m t => ∃ j, t = (nI (mnF (fun T => pc (S ^^^ T) + Hk (Gd g L D) n (n - (d + 1)) T) (grp (ws g L) (D (d + 1)) j) 1000000), nI j) ∧ j ≤ 2 ^ L ∧ m = 2 ^ L - j) ?_ FUEL (2 ^ L) _ ⟨0, rfl, Nat.zero_le _, rfl⟩ (fuel_lt (by omega))
    rintro m t ⟨j, rfl, hj, rfl⟩ rec
    by_cases e : j = 2 ^ L
    · subst e
      refine Or.inl ⟨nI (2 ^ L), ?_⟩
      show LB_X11_handed_92 _ _ _ _ _ _ _ _ rec _ (nI (2 ^ L)) = _
      unfold LB_X11_handed_92
      rw [if_pos (nI_le (Nat.le_refl _) (by omega))]
    · right
      have hj2 : j < 2 ^ L := by omega
      have hwj := ws_le g L j
      refine ⟨2 ^ L - (j + 1), _, by omega, ⟨j + 1, rfl, by omega, rfl⟩, ?_⟩
      generalize hm : mnF (fun T => pc (S ^^^ T) + Hk (Gd g L D) n (n - (d + 1)) T) (grp (ws g L) (D (d + 1)) j) 1000000 = mm
      have hmm : mm ≤ 1000000 := by rw [← hm]; exact (mnF_le _ _ _).1
      show LB_X11_handed_92 _ _ _ _ _ _ _ _ rec (nI mm) (nI j) = _
      unfold LB_X11_handed_92 B_X11_handed_181 B_X11_handed_183
      have ij : inb (nI j) 2048 = true := inb_nI (by omega) (by decide)
      have e5 : (2048 : Int32) * nI (d + 1) + nI j = nI (2048 * (d + 1) + j) := by
        rw [show (2048 : Int32) * nI (d + 1) = nI (2048 * (d + 1)) from pk_mul 2048 _, nI_add]
      rw [if_neg (nI_ge hj2 (by omega)), if_neg (nI_ge hc.1 (by omega)), ob_t iS, ob_t id, nI_clamp (show S < 2 ^ 31 by omega), nI_clamp (show d < 2 ^ 31 by omega), hwo S hS, hd d (by omega), hc.2, if_pos rfl, ob_t ij, nI_1, nI_1, ob_t (inb_nI (by omega) (by decide)), nI_clamp (show j < 2 ^ 31 by omega), nI_clamp (show d + 1 < 2 ^ 31 by omega), hwo j hj2, hd (d + 1) (by omega)]
      have eg : grp (ws g L) (D (d + 1)) (j + 1) = if ws g L j = D (d + 1) then grp (ws g L) (D (d + 1)) j ++ [j] else grp (ws g L) (D (d + 1)) j := rfl
      rw [eg]
      by_cases c : ws g L j = D (d + 1)
      · have hh1 := hh hc.1 j hj2
        rw [hv_in (by omega) c] at hh1
        have hHb := Hk_le hG (n - (d + 1)) j (by omega)
        have hpb := pc_le (S ^^^ j)
        rw [if_pos c, if_pos (by rw [c]), xor_n, ones_gen (xor_lt (by omega) (by omega)), Option.bind_some, e5, ob_t (inb_nI (by omega) (by decide)), nI_clamp (by omega), hh1, nI_add, mnF_app, hm]
        by_cases c2 : pc (S ^^^ j) + Hk (Gd g L D) n (n - (d + 1)) j < mm
        · rw [if_pos c2, if_neg (nI_ge c2 (by omega))]
        · rw [if_neg c2, if_pos (nI_le (by omega) (by omega))]
      · rw [if_neg c, if_neg (fun z => c ((nI_eq (by omega) (by omega)).mp z)), hm]
  · have ev : (if d = n then nI 0 else nI 1000000) = nI (hv g L D n d S) := by
      unfold hv
      by_cases c : d = n
      · rw [if_pos c, if_pos c]
      · rw [if_neg c, if_neg c, if_neg (fun z => hc ⟨by omega, z⟩)]
    rw [ev]
    obtain ⟨k, hk⟩ : ∃ k, FUEL = k + 1 := ⟨FUEL - 1, by have := fuel_lt (n := 0) (by decide); omega⟩
    rw [hk]
    exact ⟨nI 0, first _ 0 _ hp0 hc⟩
theorem handRow {g : Nat → Nat} {L : Nat} {D : Nat → Nat} {n d : Nat} (hL : L ≤ 11) (hn : n ≤ 60) (hdn : d ≤ n) (hg : pre g L ≤ 216) (hD : ∀ d, d ≤ 60 → D d < 2 ^ 30) (hG : ∀ d, 1 ≤ d → d ≤ n → Gd g L D d ≠ []) {dues wo hands : Nat → Int32} (hd : ∀ d, d ≤ 60 → dues d = nI (D d)) (hwo : ∀ S, S < 2 ^ L → wo S = nI (ws g L S)) (hh : d < n → ∀ T, T < 2 ^ L → hands (2048 * (d + 1) + T) = nI (hv g L D n (d + 1) T)) (kx : Int32 × (Nat → Int32) → Option (Int32 × Int32 × (Nat → Int32) × (Nat → Int32) × (Nat → Int32) × (Nat → Int32) × (Nat → Int64) × (Nat → Int32) × (Nat → Int32))) : ∃ h', ((∀ S, S < 2 ^ L → h' (2048 * d + S) = nI (hv g L D n d S)) ∧ ∀ x, (x < 2048 * d ∨ 2048 * d + 2048 ≤ x) → h' x = hands x) ∧ L_X11_handed_69 dues wo (nI n) (nI (2 ^ L)) (nI d) kx FUEL (0, hands) = kx (nI (2 ^ L), h') := by
  have hN := p11 hL
  unfold L_X11_handed_69
  refine upK (fun rec t => LB_X11_handed_69 dues wo (nI n) (nI (2 ^ L)) (nI d) kx rec t.1 t.2) kx (2 ^ L) (fun j f => (∀ S, S < j → f (2048 * d + S) = nI (hv g L D n d S)) ∧ ∀ x, (x < 2048 * d ∨ 2048 * d + 2048 ≤ x) → f x = hands x) (by omega) (fun j f hj hI rec => ?_) (fun f _ rec => ?_) (j := 0) (s := hands) (Nat.zero_le _) ⟨fun S hS => absurd hS (by omega), fun x _ => rfl⟩
  · obtain ⟨i1, i2⟩ := hI
    have hh2 : d < n → ∀ T, T < 2 ^ L → f (2048 * (d + 1) + T) = nI (hv g L D n (d + 1) T) := fun h1 T hT => by
      rw [i2 _ (by omega)]; exact hh h1 T hT
    obtain ⟨z, ez⟩ := handLeast hL hn hdn hg hD hG hj hd hwo hh2 (fun t => B_X11_handed_189 kx rec f (nI d) (nI j) t.1)
    refine ⟨upd f (2048 * d + j) (nI (hv g L D n d j)), ⟨fun S hS => ?_, fun x hx => ?_⟩, ?_⟩
    · by_cases c : S = j
      · rw [c, pk_us]
      · rw [pk_un (by omega)]; exact i1 S (by omega)
    · rw [pk_un (by omega)]; exact i2 x hx
    · show LB_X11_handed_69 _ _ _ _ _ _ rec (nI j) f = _
      unfold LB_X11_handed_69 B_X11_handed_87
      have e5 : (2048 : Int32) * nI d + nI j = nI (2048 * d + j) := by
        rw [show (2048 : Int32) * nI d = nI (2048 * d) from pk_mul 2048 _, nI_add]
      have e6 : B_X11_handed_189 kx rec f (nI d) (nI j) (nI (hv g L D n d j)) = rec (nI (j + 1), upd f (2048 * d + j) (nI (hv g L D n d j))) := by
        unfold B_X11_handed_189
        rw [e5, ob_t (inb_nI (by omega) (by decide)), nI_clamp (by omega), nI_1]
      rw [if_neg (nI_ge hj (by omega))]
      by_cases c : d = n
      · rw [if_pos (by rw [c])]
        rw [if_pos c] at ez
        exact ez.trans e6
      · rw [if_neg (fun z => c ((nI_eq (by omega) (by omega)).mp z))]
        rw [if_neg c] at ez
        exact ez.trans e6
  · show LB_X11_handed_69 _ _ _ _ _ _ rec (nI (2 ^ L)) f = _
    unfold LB_X11_handed_69
    rw [if_pos (nI_le (Nat.le_refl _) (by omega))]
theorem handAll {g : Nat → Nat} {L : Nat} {D : Nat → Nat} {n : Nat} (hL : L ≤ 11) (hn : n ≤ 60) (hg : pre g L ≤ 216) (hD : ∀ d, d ≤ 60 → D d < 2 ^ 30) (hG : ∀ d, 1 ≤ d → d ≤ n → Gd g L D d ≠ []) {dues wo : Nat → Int32} (hands : Nat → Int32) (hd : ∀ d, d ≤ 60 → dues d = nI (D d)) (hwo : ∀ S, S < 2 ^ L → wo S = nI (ws g L S)) (kx : Int32 × (Nat → Int32) → Option (Int32 × Int32 × (Nat → Int32) × (Nat → Int32) × (Nat → Int32) × (Nat → Int32) × (Nat → Int64) × (Nat → Int32) × (Nat → Int32))) : ∃ h', (∀ d, d ≤ n → ∀ S, S < 2 ^ L → h' (2048 * d + S) = nI (hv g L D n d S)) ∧ L_X11_handed_61 dues wo (nI n) (nI (2 ^ L)) kx FUEL (nI n, hands) = kx (-1, h') := by
  have hN := p11 hL
  unfold L_X11_handed_61
  have es : nI n = nI (n + 1) - 1 := (pk_sub (a := n + 1) (b := 1) (by omega)).symm
  obtain ⟨h', f1, q⟩ := dnK (fun rec t => LB_X11_handed_61 dues wo (nI n) (nI (2 ^ L)) kx rec t.1 t.2) kx (n + 1) (fun m f => ∀ d, m ≤ d → d ≤ n → ∀ S, S < 2 ^ L → f (2048 * d + S) = nI (hv g L D n d S)) (by omega) (fun d f hdn hI rec => by
      obtain ⟨f', ⟨k1, k2⟩, q⟩ := handRow hL hn (show d ≤ n by omega) hg hD hG hd hwo (fun h1 T hT => hI (d + 1) (Nat.le_refl _) (by omega) T hT) (fun t => B_X11_handed_211 kx rec t.2 (nI d))
      refine ⟨f', fun d' h1 h2 S hS => ?_, ?_⟩
      · by_cases c : d' = d
        · rw [c]; exact k1 S hS
        · rw [k2 _ (by omega)]; exact hI d' (by omega) h2 S hS
      · show LB_X11_handed_61 _ _ _ _ _ rec (nI d) f = _
        unfold LB_X11_handed_61
        rw [if_neg (nI_pos (by omega)), q]
        rfl) (fun f _ rec => by
      show LB_X11_handed_61 _ _ _ _ _ rec (-1) f = _
      unfold LB_X11_handed_61
      rw [if_pos (by decide)]) (s := hands) (fun d h1 h2 => absurd h1 (by omega))
  refine ⟨h', fun d h1 => f1 d (by omega) h1, ?_⟩
  have q' := q
  rw [← es] at q'
  exact q'
theorem handNext {g : Nat → Nat} {L : Nat} {D : Nat → Nat} {n d S : Nat} (hL : L ≤ 11) (hn : n ≤ 60) (hdn : d + 1 ≤ n) (hg : pre g L ≤ 216) (hD : ∀ d, d ≤ 60 → D d < 2 ^ 30) (hG : ∀ d, 1 ≤ d → d ≤ n → Gd g L D d ≠ []) (hS : S < 2 ^ L) (hSd : ws g L S = D d) {dues wo hands : Nat → Int32} (hd : ∀ d, d ≤ 60 → dues d = nI (D d)) (hwo : ∀ S, S < 2 ^ L → wo S = nI (ws g L S)) (hh : ∀ d, d ≤ n → ∀ S, S < 2 ^ L → hands (2048 * d + S) = nI (hv g L D n d S)) {T : Nat} (hT : BT (fun U => pc (S ^^^ U) + Hk (Gd g L D) n (n - (d + 1)) U) (Gd g L D (d + 1)) T) (kx : Int32 → Option (Int32 × Int32 × (Nat → Int32) × (Nat → Int32) × (Nat → Int32) × (Nat → Int32) × (Nat → Int64) × (Nat → Int32) × (Nat → Int32))) : L_X11_handed_232 dues wo hands (nI S) (nI (d + 1)) kx FUEL 0 = kx (nI T) := by
  have hN := p11 hL
  have hT2 := (grp_mem (ws g L) (D (d + 1)) (2 ^ L) T).mp hT.1
  have eH := Hk_BT (G := Gd g L D) (n := n) (S := S) (T := T) hn hG (k := n - (d + 1)) (by omega) (by rw [show n - (n - (d + 1)) = d + 1 by omega]; exact hT)
  rw [show n - (d + 1) + 1 = n - d by omega] at eH
  have hHb := Hk_le hG (n - d) S (by omega)
  unfold L_X11_handed_232
  have hDd := hD (d + 1) (by omega)
  have id : inb (nI (d + 1)) 61 = true := inb_nI (by omega) (by decide)
  have e0 : (2048 : Int32) * (nI (d + 1) - 1) + nI S = nI (2048 * d + S) := by
    rw [show nI (d + 1) - (1 : Int32) = nI d from pk_sub (a := d + 1) (b := 1) (by omega), show (2048 : Int32) * nI d = nI (2048 * d) from pk_mul 2048 _, nI_add]
  have hcode : ∀ j rec, j < 2 ^ L → LB_X11_handed_232 dues wo hands (nI S) (nI (d + 1)) kx rec (nI j) = if ws g L j = D (d + 1) ∧ pc (S ^^^ j) + Hk (Gd g L D) n (n - (d + 1)) j = Hk (Gd g L D) n (n - d) S then kx (nI j) else rec (nI (j + 1)) := fun j rec hj => by
    have hwj := ws_le g L j
    have e5 : (2048 : Int32) * nI (d + 1) + nI j = nI (2048 * (d + 1) + j) := by
      rw [show (2048 : Int32) * nI (d + 1) = nI (2048 * (d + 1)) from pk_mul 2048 _, nI_add]
    unfold LB_X11_handed_232 B_X11_handed_291
    rw [ob_t (inb_nI (by omega) (by decide)), ob_t id, nI_clamp (show j < 2 ^ 31 by omega), nI_clamp (show d + 1 < 2 ^ 31 by omega), hwo j hj, hd _ (by omega), nI_1]
    by_cases c : ws g L j = D (d + 1)
    · have h1 := hh (d + 1) hdn j hj
      rw [hv_in hdn c] at h1
      have h2 := hh d (by omega) S hS
      rw [hv_in (by omega) hSd] at h2
      have hHj := Hk_le hG (n - (d + 1)) j (by omega)
      have hpb := pc_le (S ^^^ j)
      rw [if_pos (by rw [c]), xor_n, ones_gen (xor_lt (by omega) (by omega)), Option.bind_some, e5, e0, ob_t (inb_nI (by omega) (by decide)), ob_t (inb_nI (by omega) (by decide)), nI_clamp (by omega), nI_clamp (by omega), h1, h2, nI_add]
      by_cases c2 : pc (S ^^^ j) + Hk (Gd g L D) n (n - (d + 1)) j = Hk (Gd g L D) n (n - d) S
      · rw [if_pos (show nI (pc (S ^^^ j) + Hk (Gd g L D) n (n - (d + 1)) j) = nI (Hk (Gd g L D) n (n - d) S) by rw [c2]), if_pos ⟨c, c2⟩]
      · rw [if_neg (fun z => c2 ((nI_eq (by omega) (by omega)).mp z)), if_neg (fun z => c2 z.2)]
    · rw [if_neg (fun z => c ((nI_eq (by omega) (by omega)).mp z)), if_neg (fun z => c z.1)]
  refine loopR _ (fun o => o = kx (nI T)) (fun m t => ∃ j, t = nI j ∧ j ≤ T ∧ m = T - j) ?_ FUEL T _ ⟨0, rfl, by omega, rfl⟩ (fuel_lt (by omega))
  rintro m t ⟨j, rfl, hj, rfl⟩ rec
  by_cases e : j = T
  · subst e
    exact Or.inl ((hcode j rec hT2.1).trans (if_pos ⟨hT2.2, eH.symm⟩))
  · refine Or.inr ⟨T - (j + 1), nI (j + 1), by omega, ⟨j + 1, rfl, by omega, rfl⟩, (hcode j rec (by omega)).trans (if_neg ?_)⟩
    rintro ⟨c1, c2⟩
    have := hT.2.2 j ((grp_mem (ws g L) (D (d + 1)) (2 ^ L) j).mpr ⟨by omega, c1⟩) (by omega)
    have h9 : pc (S ^^^ T) + Hk (Gd g L D) n (n - (d + 1)) T < pc (S ^^^ j) + Hk (Gd g L D) n (n - (d + 1)) j := this
    omega
theorem handWalk {g : Nat → Nat} {L : Nat} {D : Nat → Nat} {n day : Nat} (hL : L ≤ 11) (hn : n ≤ 60) (hday : day ≤ n) (h0 : D 0 = 0) (hg : pre g L ≤ 216) (hD : ∀ d, d ≤ 60 → D d < 2 ^ 30) (hG : ∀ d, 1 ≤ d → d ≤ n → Gd g L D d ≠ []) {dues wo hands : Nat → Int32} (hd : ∀ d, d ≤ 60 → dues d = nI (D d)) (hwo : ∀ S, S < 2 ^ L → wo S = nI (ws g L S)) (hh : ∀ d, d ≤ n → ∀ S, S < 2 ^ L → hands (2048 * d + S) = nI (hv g L D n d S)) (kx : Int32 × Int32 → Option (Int32 × Int32 × (Nat → Int32) × (Nat → Int32) × (Nat → Int32) × (Nat → Int32) × (Nat → Int64) × (Nat → Int32) × (Nat → Int32))) : ∃ S z, Tr (Gd g L D) n day S ∧ L_X11_handed_223 dues wo hands (nI day) kx FUEL (0, 1) = kx (nI S, z) := by
  unfold L_X11_handed_223
  refine loopR _ (fun o => ∃ S z, Tr (Gd g L D) n day S ∧ o = kx (nI S, z)) (fun m t => ∃ d S, t = (nI S, nI (d + 1)) ∧ d ≤ day ∧ m = day - d ∧ S < 2 ^ L ∧ ws g L S = D d ∧ Tr (Gd g L D) n d S) ?_ FUEL day _ ⟨0, 0, rfl, by omega, rfl, Nat.two_pow_pos L, by rw [ws_0, h0], rfl⟩ (fuel_lt (by omega))
  rintro m t ⟨d, S, rfl, hdd, rfl, hS, hSd, hT⟩ rec
  by_cases c : d = day
  · subst c
    refine Or.inl ⟨S, nI (d + 1), hT, ?_⟩
    show LB_X11_handed_223 _ _ _ _ _ rec (nI S) (nI (d + 1)) = _
    unfold LB_X11_handed_223
    rw [if_pos (nI_lt (by omega) (by omega))]
  · obtain ⟨T, bT⟩ := BT_ex (fun U => pc (S ^^^ U) + Hk (Gd g L D) n (n - (d + 1)) U) (hG (d + 1) (by omega) (by omega))
    have hT2 := (grp_mem (ws g L) (D (d + 1)) (2 ^ L) T).mp bT.1
    refine Or.inr ⟨day - (d + 1), (nI T, nI (d + 1 + 1)), by omega, ⟨d + 1, T, rfl, by omega, rfl, hT2.1, hT2.2, S, hT, bT⟩, ?_⟩
    show LB_X11_handed_223 _ _ _ _ _ rec (nI S) (nI (d + 1)) = _
    unfold LB_X11_handed_223
    rw [if_neg (nI_nlt (by omega) (by omega)), handNext hL hn (by omega) hg hD hG hS hSd hd hwo hh bT]
    unfold B_X11_handed_297
    rw [nI_1]
theorem SBn_ws (g : Nat → Nat) : ∀ k s, (SBn 1 g k).testBit s = true → ∃ S, S < 2 ^ k ∧ ws g k S = s
  | 0, s, h => by
    have h' : (1 : Nat).testBit s = true := h
    rw [show (1 : Nat) = 2 ^ 0 from rfl, Nat.testBit_two_pow] at h'
    exact ⟨0, by decide, of_decide_eq_true h'⟩
  | k + 1, s, h => by
    have hpp : 2 ^ (k + 1) = 2 ^ k + 2 ^ k := by rw [Nat.pow_succ]; omega
    have h' : (SBn 1 g k ||| SBn 1 g k <<< g k).testBit s = true := h
    rw [Nat.testBit_or, Nat.testBit_shiftLeft, Bool.or_eq_true, Bool.and_eq_true] at h'
    rcases h' with h' | ⟨h1, h2⟩
    · obtain ⟨S, s1, s2⟩ := SBn_ws g k s h'
      exact ⟨S, by omega, by rw [ws_low g s1, s2]⟩
    · obtain ⟨S, s1, s2⟩ := SBn_ws g k _ h2
      have := of_decide_eq_true h1
      exact ⟨2 ^ k + S, by omega, by rw [ws_high g s1, s2]; omega⟩
theorem runD_all {p : Nat → Bool} : ∀ f d0 d, d0 < d → d ≤ runD p f d0 → p d = true
  | 0, d0, d, h1, h2 => by
    have h2 : d ≤ d0 := h2
    omega
  | f + 1, d0, d, h1, h2 => by
    have h2 : d ≤ (if p (d0 + 1) = true then runD p f (d0 + 1) else d0) := h2
    by_cases c : p (d0 + 1) = true
    · rw [if_pos c] at h2
      by_cases e : d = d0 + 1
      · rw [e]; exact c
      · exact runD_all f (d0 + 1) d (by omega) h2
    · rw [if_neg c] at h2; omega
theorem far_grp {kd n : Nat} {w : Nat → Nat} {r off dbl : Nat} {cs : List Nat} {m : Nat} (h : m ≤ farF kd n w r off dbl cs) : ∀ d, 1 ≤ d → d ≤ m → Gd (pv (pcs kd n w cs)) (pcs kd n w cs).length (dueF r off dbl) d ≠ [] := by
  intro d h1 h2 e
  have := runD_all 60 0 d h1 (Nat.le_trans h2 h)
  rw [SB_vals] at this
  obtain ⟨S, s1, s2⟩ := SBn_ws _ _ _ this
  have hm := (grp_mem (ws (pv (pcs kd n w cs)) (pcs kd n w cs).length) (dueF r off dbl d) _ S).mpr ⟨s1, s2⟩
  have e' : grp (ws (pv (pcs kd n w cs)) (pcs kd n w cs).length) (dueF r off dbl d) (2 ^ (pcs kd n w cs).length) = [] := e
  rw [e'] at hm
  cases hm
theorem dueF_mono (r off dbl : Nat) : ∀ d, dueF r off dbl d ≤ dueF r off dbl (d + 1) := fun d => by
  show _ ≤ dueF r off dbl d + _
  omega
theorem in_n (v : Int32) {n : Nat} (hn : n < 2 ^ 31) : f_X11_in v.toInt64 (0 : Int64) (nI n).toInt64 = some (if (0 : Int32) ≤ v ∧ v ≤ nI n then 1 else 0) := in_int v 0 (nI n)
theorem tq_handed {x_hasImage : Int32} {x_chain_kind : Int32} {x_chain_links : Int32} {x_chain_cutCount : Int32} {x_best_known : Nat → Int32} {x_chain_worths : Nat → Int32} {x_chain_ahead : Nat → Int32} {x_chain_cuts : Nat → Int32} {x_tape_length : Int32} {x_tape_bytes : Nat → Int32} {x_draft_ahead : Nat → Int32} {x_pieces_count : Int32} {x_pieces_first : Nat → Int32} {x_pieces_size : Nat → Int32} {x_pieces_value : Nat → Int32} {x_days_each : Int32} {x_days_off : Int32} {x_days_twice : Int32} {x_days_dues : Nat → Int32} {x_sums_words : Int32} {x_sums_bits : Nat → Int64} {x_sets_whole : Int32} {x_sets_pieceCount : Int32} {x_sets_lookedBack : Int32} {x_sets_worths : Nat → Int32} {x_sets_ends : Nat → Int32} {x_sets_order : Nat → Int32} {x_sets_notes : Nat → Int32} {x_best_far : Nat → Int32} {x_best_rows : Nat → Nat → Int32} {x_sets_lookedAt : Nat → Int32} {x_imageChain_kind : Int32} {x_imageChain_links : Int32} {x_imageChain_cutCount : Int32} {x_imageChain_worths : Nat → Int32} {x_imageChain_ahead : Nat → Int32} {x_imageChain_cuts : Nat → Int32} {x_imageDays_each : Int32} {x_imageDays_off : Int32} {x_imageDays_twice : Int32} {x_imageDays_dues : Nat → Int32} {x_sheets_there : Nat → Int32} {x_sheets_lane : Nat → Int32} {x_sheets_length : Nat → Int32} {x_sheets_items : Nat → Nat → Int64} {y_isKept : Int32} {y_taped : Int32} {y_pieces : Int32} {y_w : Nat → Int32} {y_firsts : Nat → Int32} {y_sizes : Nat → Int32} {y_worths : Nat → Int32} {y_tape : Nat → Int32} {y_dues : Nat → Int32} {y_sums : Nat → Int64} {y_worthOf : Nat → Int32} {y_hands : Nat → Int32} {y_lanes : Nat → Int32} {y_longs : Nat → Int32} {y_items : Nat → Int64} (hR : Rel x_chain_kind x_chain_links x_chain_cutCount x_chain_worths x_chain_ahead x_chain_cuts x_days_each x_days_off x_days_twice x_days_dues x_best_known x_best_far x_best_rows x_hasImage x_imageChain_kind x_imageChain_links x_imageChain_cutCount x_imageChain_worths x_imageChain_ahead x_imageChain_cuts x_imageDays_each x_imageDays_off x_imageDays_twice x_imageDays_dues x_tape_length x_tape_bytes x_sheets_there x_sheets_lane x_sheets_length x_sheets_items x_draft_ahead x_sets_whole x_sets_pieceCount x_sets_lookedBack x_sets_worths x_sets_lookedAt x_sets_ends x_sets_order x_sets_notes y_w y_isKept y_taped y_tape y_lanes y_longs y_items) (p0 : Int32) (p1 : Int32) : ∃ (rx : Int32 × Int32 × (Nat → Int32) × (Nat → Int32) × (Nat → Int32) × Int32 × (Nat → Int64) × Int32 × Int32 × Int32 × (Nat → Int32) × (Nat → Int32) × (Nat → Int32) × (Nat → Int32) × (Nat → Int32)) (ry : Int32 × Int32 × (Nat → Int32) × (Nat → Int32) × (Nat → Int32) × (Nat → Int32) × (Nat → Int64) × (Nat → Int32) × (Nat → Int32)), f_X10_handed x_chain_kind x_chain_links x_chain_cutCount x_pieces_count x_pieces_first x_pieces_size x_pieces_value x_chain_ahead x_chain_worths x_chain_cuts x_sums_words x_sums_bits x_days_dues x_sets_whole x_sets_pieceCount x_sets_lookedBack x_sets_worths x_sets_lookedAt x_sets_ends x_sets_order x_sets_notes p0 p1 = some rx ∧ f_X11_handed y_pieces y_dues y_w y_firsts y_sizes y_worths y_sums y_worthOf y_hands p0 p1 = some ry ∧ rx.1 = ry.1 ∧ Rel x_chain_kind x_chain_links x_chain_cutCount x_chain_worths x_chain_ahead x_chain_cuts x_days_each x_days_off x_days_twice x_days_dues x_best_known x_best_far x_best_rows x_hasImage x_imageChain_kind x_imageChain_links x_imageChain_cutCount x_imageChain_worths x_imageChain_ahead x_imageChain_cuts x_imageDays_each x_imageDays_off x_imageDays_twice x_imageDays_dues x_tape_length x_tape_bytes x_sheets_there x_sheets_lane x_sheets_length x_sheets_items x_draft_ahead rx.2.2.2.2.2.2.2.1 rx.2.2.2.2.2.2.2.2.1 rx.2.2.2.2.2.2.2.2.2.1 rx.2.2.2.2.2.2.2.2.2.2.1 rx.2.2.2.2.2.2.2.2.2.2.2.1 rx.2.2.2.2.2.2.2.2.2.2.2.2.1 rx.2.2.2.2.2.2.2.2.2.2.2.2.2.1 rx.2.2.2.2.2.2.2.2.2.2.2.2.2.2 y_w y_isKept y_taped y_tape y_lanes y_longs y_items := by
  obtain ⟨kd, n, w, cs, r, off, dbl, hV, hCC, hM, hDV, hDC, hD, hB⟩ := id hR.1
  obtain ⟨f1, s1, v1, W, gb, e1, pa1⟩ := daysPaid_ok hV hCC hDV.2.1 hDC.2.2.2 x_pieces_first x_pieces_size x_pieces_value x_sums_bits
  obtain ⟨rd, er, hrd⟩ := layDues_ok hDV hD y_dues
  obtain ⟨f2, s2, v2, g2, e2, pa2⟩ := farM hV hDV.2.1 hM.1 hM.2.1 (M_ew hM) hrd y_firsts y_sizes y_worths y_sums
  obtain ⟨hl, hp2, -⟩ := PaV_of hV
  have hDb : ∀ d, d ≤ 60 → dueF r off dbl d < 2 ^ 30 := fun d hd => by
    have := due_le (r := r) (off := off) (dbl := dbl) hDV.2.1 d
    omega
  have hfar := farF_le kd n w r off dbl cs
  unfold f_X10_handed f_X11_handed B_X10_handed_19 B_X11_handed_23
  rw [within_ok, within_ok, in_lit p0 1 60 (by decide) (by decide), e1, er]
  simp only [Option.bind_some]
  by_cases h1 : (1 : Int32) ≤ p0 ∧ p0 ≤ 60
  · rw [if_pos h1, if_neg n10, if_neg n10]
    obtain ⟨q, hq, rfl⟩ := nat_of (N := 60) (M := 60) (by decide) ⟨Int32.le_trans (by decide) h1.1, h1.2⟩
    have hq1 : 1 ≤ q := Nat.le_of_not_lt (fun z => nI_ge (b := 1) z (by decide) h1.1)
    rw [in_n p1 (by omega)]
    simp only [Option.bind_some]
    by_cases h2 : (0 : Int32) ≤ p1 ∧ p1 ≤ nI q
    · rw [if_pos h2, if_neg n10, if_neg n10]
      obtain ⟨y, hy, rfl⟩ := nat_of (N := q) (M := nI q) (nI_toInt (by omega)) h2
      rw [ob_t (by decide), show y_w (26 : Int32).toNatClampNeg = nI (mask cs) from hM.2.2.2, e2]
      simp only [Option.bind_some]
      by_cases h3 : q ≤ farF kd n w r off dbl cs
      · rw [if_pos (nI_le h3 (by omega)), if_pos (nI_le h3 (by omega))]
        have hG := far_grp h3
        generalize pcs kd n w cs = P at *
        have hgb : ∀ i, i < P.length → pv P i < 2 ^ 20 := fun i hi => by
          have h9 := ws_le (pv P) P.length (2 ^ i)
          rw [ws_two, if_pos hi] at h9
          omega
        obtain ⟨wm, em, hwm⟩ := laySets_ok hl (PA_v pa2) y_worthOf
        obtain ⟨h', hh, eh⟩ := handAll hl hq hp2 hDb hG y_hands hrd hwm (fun t => B_X11_handed_217 (nI P.length) rd f2 s2 v2 g2 wm t.2 (nI y))
        obtain ⟨U, z, hU, eU⟩ := handWalk hl hq hy rfl hp2 hDb hG hrd hwm hh (fun t => B_X11_handed_307 (nI P.length) rd f2 s2 v2 g2 wm h' (nI y) t.1)
        have fin : ∃ (ans : Int32) (ry : Int32 × Int32 × (Nat → Int32) × (Nat → Int32) × (Nat → Int32) × (Nat → Int32) × (Nat → Int64) × (Nat → Int32) × (Nat → Int32)), (∀ (wh pcn lb : Int32) (wo la e o nt : Nat → Int32), GS (ws (pv P) P.length) (2 ^ P.length) wh e o → NoI (Gd (pv P) P.length (dueF r off dbl)) q 1 nt → B_X10_handed_80 (nI P.length) f1 s1 v1 (nI W) gb x_days_dues wh pcn lb wo la e o nt (nI y) = some (ans, nI P.length, f1, s1, v1, nI W, gb, wh, pcn, lb, wo, la, e, o, nt)) ∧ B_X11_handed_307 (nI P.length) rd f2 s2 v2 g2 wm h' (nI y) (nI U) = some ry ∧ ans = ry.1 := by
          by_cases c : y = 0
          · have e0 : h' 0 = nI (Hk (Gd (pv P) P.length (dueF r off dbl)) q q 0) := by
              have := hh 0 (by omega) 0 (Nat.two_pow_pos _)
              rw [hv_in (by omega) (by rw [ws_0]; rfl)] at this
              exact this
            subst c
            have z0 : nI 0 = (0 : Int32) := rfl
            refine ⟨_, (nI (Hk (Gd (pv P) P.length (dueF r off dbl)) q q 0), nI P.length, rd, f2, s2, v2, g2, wm, h'), fun wh pcn lb wo la e o nt hS hI => ?_, ?_, rfl⟩
            · unfold B_X10_handed_80 B_X10_handed_116
              rw [if_pos z0, handedInAll_ok hl hq1 hq hDb hG hS hDC.2.2.2 hI, Option.bind_some]
            · unfold B_X11_handed_307 B_X11_handed_322
              rw [if_pos z0, ob_t (by decide), show h' (0 : Int32).toNatClampNeg = _ from e0]
          · have cn : ¬ nI y = 0 := nI_nz (by omega) c
            refine ⟨_, (nI U, nI P.length, rd, f2, s2, v2, g2, wm, h'), fun wh pcn lb wo la e o nt hS hI => ?_, ?_, rfl⟩
            · obtain ⟨T, eT, hT⟩ := onCounter_ok hl hq hy hDb hG hS hDC.2.2.2 hI
              unfold B_X10_handed_80 B_X10_handed_116
              rw [if_neg cn, eT, Option.bind_some, Tr_uniq _ _ _ hT hU]
            · unfold B_X11_handed_307 B_X11_handed_322
              rw [if_neg cn]
        obtain ⟨ans, ry, fC, fM, ea⟩ := fin
        rw [em]
        simp only [Option.bind_some]
        rw [shl31 (by omega), eh]
        dsimp only
        unfold B_X11_handed_217
        rw [eU]
        dsimp only
        rw [fM]
        rcases hlb_ok hR.2.2.1.2.2 hq1 hq hl (PA_v pa1) hgb hDb hDC.2.2.2 with h0 | ⟨h0, hS, hI⟩
        · obtain ⟨wo, e, o, es, hwo, hS⟩ := setsC hl hp2 (PA_v pa1) x_sets_worths x_sets_ends x_sets_order
          obtain ⟨n', eb, hI⟩ := lookBack_ok hl hq1 hq hDb (dueF_mono r off dbl) hG hS hDC.2.2.2 x_sets_notes x_sets_lookedAt
          rw [h0]
          simp only [Option.bind_some]
          rw [if_pos trivial, es]
          simp only [Option.bind_some]
          rw [eb]
          simp only [Option.bind_some]
          rw [fC _ _ _ _ _ _ _ _ hS hI]
          refine ⟨_, _, rfl, rfl, ea, hR.1, hR.2.1, ⟨hR.2.2.1.1, hR.2.2.1.2.1, Or.inr ⟨q, P.length, pv P, dueF r off dbl, hq1, hq, hl, rfl, rfl, fun i hi => ⟨hgb i hi, ?_⟩, fun d hd => ⟨hDb d hd, ?_⟩, hS, hI⟩⟩, hR.2.2.2⟩
          · have h9 := hwo (2 ^ i) (Nat.pow_lt_pow_right (by decide) hi)
            rw [ws_two, if_pos hi] at h9
            exact h9
          · exact (cpy0 (f := x_days_dues) (g := x_sets_lookedAt) (n := 61) (j := d) (by omega)).trans (hDC.2.2.2 d hd)
        · rw [h0]
          simp only [Option.bind_some]
          rw [if_neg n10, fC _ _ _ _ _ _ _ _ hS hI]
          exact ⟨_, _, rfl, rfl, ea, hR⟩
      · rw [if_neg (nI_ge (by omega) (by omega)), if_neg (nI_ge (by omega) (by omega))]
        exact ⟨_, _, rfl, rfl, rfl, hR⟩
    · rw [if_neg h2, if_pos rfl, if_pos rfl]
      exact ⟨_, _, rfl, rfl, rfl, hR⟩
  · rw [if_neg h1, if_pos rfl, if_pos rfl]
    exact ⟨_, _, rfl, rfl, rfl, hR⟩
