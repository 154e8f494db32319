/-! seen: worths that lie there, each of another piece -/
def frs (q : Nat → Bool) : Nat → Nat → Nat
  | 0, j => j
  | m + 1, j => if q j = true then j else frs q m (j + 1)
theorem frs_le (q : Nat → Bool) : ∀ m j, frs q m j ≤ j + m
  | 0, _ => Nat.le_refl _
  | m + 1, j => by
    show (if q j = true then j else frs q m (j + 1)) ≤ _
    have := frs_le q m (j + 1)
    split <;> omega
theorem frs_stop {q : Nat → Bool} {L j : Nat} (hj : j < L) (h : q j = true) : frs q (L - j) j = j := by
  obtain ⟨m, hm⟩ : ∃ m, L - j = m + 1 := ⟨L - j - 1, by omega⟩
  rw [hm]
  show (if q j = true then j else _) = j
  rw [if_pos h]
theorem frs_go {q : Nat → Bool} {L j : Nat} (hj : j < L) (h : ¬ q j = true) : frs q (L - j) j = frs q (L - (j + 1)) (j + 1) := by
  obtain ⟨m, hm⟩ : ∃ m, L - j = m + 1 := ⟨L - j - 1, by omega⟩
  rw [hm, show L - (j + 1) = m by omega]
  show (if q j = true then j else _) = _
  rw [if_neg h]
def qP (g : Nat → Nat) (x U p : Nat) : Bool := decide (g p = x) && !U.testBit p
theorem qP_iff {g : Nat → Nat} {x U p : Nat} : qP g x U p = true ↔ (g p = x ∧ U.testBit p = false) := by
  unfold qP
  rw [Bool.and_eq_true, decide_eq_true_eq, Bool.not_eq_true']
def hvA (g : Nat → Nat) (L : Nat) (wt : Nat → Nat) : Nat → Nat → Nat → Bool
  | 0, _, _ => true
  | m + 1, t, U => if frs (qP g (wt t) U) L 0 < L then hvA g L wt m (t + 1) (U ||| 2 ^ frs (qP g (wt t) U) L 0) else false
theorem free_bit {U p : Nat} (hU : U < 2 ^ 31) (hp : p < 31) : ((nI U >>> (nI p &&& 31)) &&& (1 : Int32) = 0) ↔ U.testBit p = false := by
  rw [shr_n hU (by omega), show (1 : Int32) = nI (2 ^ 1 - 1) from rfl, and_n, Nat.and_two_pow_sub_one_eq_mod, show (0 : Int32) = nI 0 from rfl, nI_eq (by have := Nat.mod_lt (U / 2 ^ p) (show 0 < 2 ^ 1 by decide); omega) (by decide), Nat.testBit_eq_decide_div_mod_eq, decide_eq_false_iff_not]
  rw [show (2 : Nat) ^ 1 = 2 from rfl]
  omega
theorem freePiece_ok {g : Nat → Nat} {L x U : Nat} {v : Nat → Int32} (hL : L ≤ 11) (hU : U < 2048) (hx : x < 2 ^ 31) (hg : ∀ i, i < L → g i < 2 ^ 31) (hv : ∀ i, i < L → v i = nI (g i)) : f_X5_freePiece (nI L) v (nI x) (nI U) = some (if frs (qP g x U) L 0 < L then nI (frs (qP g x U) L 0) else -1) := by
  unfold f_X5_freePiece L_X5_freePiece_2
  generalize hF : frs (qP g x U) L 0 = F
  refine upQ0 _ (fun o => o = some (if F < L then nI F else -1)) L (fun j => frs (qP g x U) (L - j) j = F) (by omega) ?_ ?_ (j := 0) (by omega) hF
  · intro j hj hI
    have ij : inb (nI j) 11 = true := inb_nI (by omega) (by decide)
    by_cases c : qP g x U j = true
    · have hc := qP_iff.mp c
      have hF2 : F = j := by rw [← hI, frs_stop hj c]
      refine Or.inl (fun rec => ?_)
      show LB_X5_freePiece_2 _ _ _ _ _ rec (nI j) = _
      unfold LB_X5_freePiece_2
      rw [if_neg (nI_ge hj (by omega)), ob_t ij, nI_clamp (by omega), hv j hj, hc.1, if_pos rfl, if_pos ((free_bit (by omega) (by omega)).mpr hc.2), hF2, if_pos hj]
    · refine Or.inr ⟨by rw [← frs_go hj c]; exact hI, fun rec => ?_⟩
      show LB_X5_freePiece_2 _ _ _ _ _ rec (nI j) = _
      unfold LB_X5_freePiece_2 B_X5_freePiece_30
      rw [if_neg (nI_ge hj (by omega)), ob_t ij, nI_clamp (by omega), hv j hj, nI_1]
      by_cases c1 : g j = x
      · rw [if_pos (by rw [c1]), if_neg (fun z => c (qP_iff.mpr ⟨c1, (free_bit (by omega) (by omega)).mp z⟩))]
      · rw [if_neg (fun z => c1 ((nI_eq (hg j hj) hx).mp z))]
  · intro hI rec
    show LB_X5_freePiece_2 _ _ _ _ _ rec (nI L) = _
    unfold LB_X5_freePiece_2
    rw [if_pos (nI_le (Nat.le_refl _) (by omega))]
    rw [Nat.sub_self] at hI
    have hI : L = F := hI
    rw [if_neg (by omega)]
    rfl
theorem or_lt {U p L : Nat} (hL : L ≤ 11) (hU : U < 2048) (hp : p < L) : U ||| 2 ^ p < 2048 := Nat.or_lt_two_pow (n := 11) hU (Nat.pow_lt_pow_right (a := 2) (by decide) (by omega))
theorem haveAll_ok {g : Nat → Nat} {L n : Nat} {wt : Nat → Nat} {v wa : Nat → Int32} (hL : L ≤ 11) (hn : n ≤ 8) (hg : ∀ i, i < L → g i < 2 ^ 31) (hv : ∀ i, i < L → v i = nI (g i)) (hw : ∀ t, t < n → wa t = nI (wt t) ∧ wt t < 2 ^ 31) : f_X5_haveAll 8 (nI L) v wa (nI n) = some (if hvA g L wt n 0 0 = true then 1 else 0) := by
  unfold f_X5_haveAll L_X5_haveAll_5
  refine loopR _ (fun o => o = some (if hvA g L wt n 0 0 = true then 1 else 0)) (fun m a => ∃ t U, a = (nI U, nI t) ∧ U < 2048 ∧ t ≤ n ∧ m = n - t ∧ hvA g L wt (n - t) t U = hvA g L wt n 0 0) ?_ FUEL n _ ⟨0, 0, rfl, by decide, by omega, rfl, rfl⟩ (fuel_lt (by omega))
  rintro m a ⟨t, U, rfl, hU, ht, rfl, hI⟩ rec
  by_cases c : t = n
  · subst c
    left
    show LB_X5_haveAll_5 _ _ _ _ _ _ rec (nI U) (nI t) = _
    unfold LB_X5_haveAll_5
    rw [if_pos (nI_le (Nat.le_refl _) (by omega)), ← hI, Nat.sub_self]
    rfl
  · have ht2 : t < n := by omega
    have hwt := hw t ht2
    have eA : hvA g L wt (n - t) t U = if frs (qP g (wt t) U) L 0 < L then hvA g L wt (n - (t + 1)) (t + 1) (U ||| 2 ^ frs (qP g (wt t) U) L 0) else false := by
      obtain ⟨q, hq⟩ : ∃ q, n - t = q + 1 := ⟨n - t - 1, by omega⟩
      rw [hq, show n - (t + 1) = q by omega]
      rfl
    have hcode : LB_X5_haveAll_5 8 (nI L) v wa (nI n) (fun t => B_X5_haveAll_42) rec (nI U) (nI t) = if frs (qP g (wt t) U) L 0 < L then rec (nI (U ||| 2 ^ frs (qP g (wt t) U) L 0), nI (t + 1)) else some 0 := by
      unfold LB_X5_haveAll_5
      rw [if_neg (nI_ge ht2 (by omega)), ob_t (inb_nI (by omega) (by decide)), nI_clamp (by omega), hwt.1, freePiece_ok hL hU hwt.2 hg hv, Option.bind_some, nI_1]
      by_cases c2 : frs (qP g (wt t) U) L 0 < L
      · rw [if_pos c2, if_pos c2, if_pos (nI_pos' (by omega)), shl31 (by omega), or_n]
      · rw [if_neg c2, if_neg c2, if_neg (by decide)]
    by_cases c2 : frs (qP g (wt t) U) L 0 < L
    · rw [if_pos c2] at eA hcode
      exact Or.inr ⟨n - (t + 1), _, by omega, ⟨t + 1, _, rfl, or_lt hL hU c2, by omega, rfl, by rw [← eA]; exact hI⟩, hcode⟩
    · rw [if_neg c2] at eA hcode
      refine Or.inl (hcode.trans ?_)
      rw [← hI, eA, if_neg Bool.false_ne_true]
theorem lN_w {x : Nat} {y : Nat} (hx : x < 2 ^ 31) (hy : y < 2 ^ 31) : (lg_cmp (nI x).toInt64 (lN y) = 0) ↔ x = y := by
  rw [nI_l hx, lgc_eq]
  exact lN_inj (by omega) (by omega)
theorem holdsOne {g : Nat → Nat} {L x U b t : Nat} {v us : Nat → Int32} {items : Nat → Int64} (hL : L ≤ 11) (hx : x < 2 ^ 31) (hbt : b + t < 96) (hg : ∀ i, i < L → g i < 2 ^ 31) (hv : ∀ i, i < L → v i = nI (g i)) (hit : items (b + t) = lN x) (hu : ∀ i, i < L → tf (us i) (U.testBit i = true)) (kx : Int32 → Option (Int32 × (Nat → Int32))) : L_X11_holds_33 (nI L) us v items (nI b) (nI t) kx FUEL 0 = kx (nI (frs (qP g x U) L 0)) := by
  unfold L_X11_holds_33
  generalize hF : frs (qP g x U) L 0 = F
  refine upQ0 _ (fun o => o = kx (nI F)) L (fun j => frs (qP g x U) (L - j) j = F) (by omega) ?_ ?_ (j := 0) (by omega) hF
  · intro j hj hI
    have ij : inb (nI j) 24 = true := inb_nI (by omega) (by decide)
    have it : inb (nI b + nI t) 96 = true := by rw [nI_add]; exact inb_nI hbt (by decide)
    have hcode : ∀ rec, LB_X11_holds_33 (nI L) us v items (nI b) (nI t) kx rec (nI j) = if qP g x U j = true then kx (nI j) else rec (nI (j + 1)) := fun rec => by
      unfold LB_X11_holds_33 B_X11_holds_72
      rw [if_neg (nI_ge hj (by omega)), ob_t ij, ob_t ij, ob_t it, nI_clamp (show j < 2 ^ 31 by omega), nI_add, nI_clamp (show b + t < 2 ^ 31 by omega), hit, hv j hj, nI_1]
      rcases hu j hj with ⟨e1, c1⟩ | ⟨e1, c1⟩
      · rw [e1, if_neg n10, if_neg (fun z => by
          have := (qP_iff.mp z).2
          rw [c1] at this
          cases this)]
      · rw [e1, if_pos rfl]
        by_cases c2 : g j = x
        · rw [if_pos ((lN_w (hg j hj) hx).mpr c2), if_pos (qP_iff.mpr ⟨c2, by simpa using c1⟩)]
        · rw [if_neg (fun z => c2 ((lN_w (hg j hj) hx).mp z)), if_neg (fun z => c2 (qP_iff.mp z).1)]
    by_cases c : qP g x U j = true
    · have hF2 : F = j := by rw [← hI, frs_stop hj c]
      exact Or.inl (fun rec => (hcode rec).trans (by rw [if_pos c, hF2]))
    · exact Or.inr ⟨by rw [← frs_go hj c]; exact hI, fun rec => (hcode rec).trans (if_neg c)⟩
  · intro hI rec
    show LB_X11_holds_33 _ _ _ _ _ _ _ rec (nI L) = _
    unfold LB_X11_holds_33
    rw [if_pos (nI_le (Nat.le_refl _) (by omega))]
    rw [Nat.sub_self] at hI
    have hI : L = F := hI
    rw [hI]
theorem holds_ok {g : Nat → Nat} {L n b : Nat} {wt : Nat → Nat} {v : Nat → Int32} {items : Nat → Int64} (hL : L ≤ 11) (hn : n ≤ 8) (hb : b + n ≤ 96) (hg : ∀ i, i < L → g i < 2 ^ 31) (hv : ∀ i, i < L → v i = nI (g i)) (hw : ∀ t, t < n → items (b + t) = lN (wt t) ∧ wt t < 2 ^ 31) (us : Nat → Int32) : ∃ us', f_X11_holds (nI L) us v items (nI b) (nI n) = some (if hvA g L wt n 0 0 = true then 1 else 0, us') := by
  unfold f_X11_holds L_X11_holds_2
  obtain ⟨u1, h1, q1⟩ := upK (fun rec t => LB_X11_holds_2 (nI L) (fun t => B_X11_holds_23 (nI L) t.2 v items (nI b) (nI n)) rec t.1 t.2) (fun t => B_X11_holds_23 (nI L) t.2 v items (nI b) (nI n)) L (fun j u => ∀ i, i < j → u i = 0) (by omega) (fun j u hj hI rec => ⟨upd u j 0, fun i hi => by
      by_cases c : i = j
      · rw [c, pk_us]
      · rw [pk_un c]; exact hI i (by omega), by
      show LB_X11_holds_2 _ _ rec (nI j) u = _
      unfold LB_X11_holds_2
      rw [if_neg (nI_ge hj (by omega)), ob_t (inb_nI (by omega) (by decide)), nI_clamp (by omega), nI_1, nar0]⟩) (fun u _ rec => by
      show LB_X11_holds_2 _ _ rec (nI L) u = _
      unfold LB_X11_holds_2
      rw [if_pos (nI_le (Nat.le_refl _) (by omega))]) (j := 0) (s := us) (by omega) (fun i hi => absurd hi (by omega))
  refine (Exists.imp fun us' z => q1.trans z) ?_
  show ∃ us', B_X11_holds_23 (nI L) u1 v items (nI b) (nI n) = _
  unfold B_X11_holds_23 L_X11_holds_25
  refine loopR _ (fun o => ∃ us', o = some (if hvA g L wt n 0 0 = true then 1 else 0, us')) (fun m a => ∃ t U u, a = (nI t, u) ∧ U < 2048 ∧ t ≤ n ∧ m = n - t ∧ (∀ i, i < L → tf (u i) (U.testBit i = true)) ∧ hvA g L wt (n - t) t U = hvA g L wt n 0 0) ?_ FUEL n _ ⟨0, 0, u1, rfl, by decide, by omega, rfl, fun i hi => Or.inr ⟨h1 i hi, by rw [Nat.zero_testBit]; exact Bool.false_ne_true⟩, rfl⟩ (fuel_lt (by omega))
  rintro m a ⟨t, U, u, rfl, hU, ht, rfl, hu, hI⟩ rec
  by_cases c : t = n
  · subst c
    refine Or.inl ⟨u, ?_⟩
    show LB_X11_holds_25 _ _ _ _ _ _ rec (nI t) u = _
    unfold LB_X11_holds_25
    rw [if_pos (nI_le (Nat.le_refl _) (by omega)), ← hI, Nat.sub_self]
    rfl
  · have ht2 : t < n := by omega
    have hwt := hw t ht2
    have eA : hvA g L wt (n - t) t U = if frs (qP g (wt t) U) L 0 < L then hvA g L wt (n - (t + 1)) (t + 1) (U ||| 2 ^ frs (qP g (wt t) U) L 0) else false := by
      obtain ⟨q, hq⟩ : ∃ q, n - t = q + 1 := ⟨n - t - 1, by omega⟩
      rw [hq, show n - (t + 1) = q by omega]
      rfl
    have hfl := frs_le (qP g (wt t) U) L 0
    have hcode : LB_X11_holds_25 (nI L) v items (nI b) (nI n) (fun t => B_X11_holds_103 t.2) rec (nI t) u = if frs (qP g (wt t) U) L 0 < L then rec (nI (t + 1), upd u (frs (qP g (wt t) U) L 0) 1) else some (0, u) := by
      unfold LB_X11_holds_25
      rw [if_neg (nI_ge ht2 (by omega)), holdsOne hL hwt.2 (by omega) hg hv hwt.1 hu]
      unfold B_X11_holds_78
      by_cases c2 : frs (qP g (wt t) U) L 0 < L
      · rw [if_neg (fun z => by have := (nI_eq (by omega) (by omega)).mp z; omega), if_pos c2, ob_t (inb_nI (by omega) (by decide)), nI_clamp (by omega), nI_1, nar1]
      · rw [if_pos (show nI (frs (qP g (wt t) U) L 0) = nI L by congr 1; omega), if_neg c2]
    by_cases c2 : frs (qP g (wt t) U) L 0 < L
    · rw [if_pos c2] at eA hcode
      refine Or.inr ⟨n - (t + 1), _, by omega, ⟨t + 1, _, _, rfl, or_lt hL hU c2, by omega, rfl, fun i hi => ?_, by rw [← eA]; exact hI⟩, hcode⟩
      rw [Nat.testBit_or, Nat.testBit_two_pow]
      by_cases e : i = frs (qP g (wt t) U) L 0
      · rw [e, pk_us, decide_eq_true rfl, Bool.or_true]; exact Or.inl ⟨rfl, rfl⟩
      · rw [pk_un e, decide_eq_false (fun z => e z.symm), Bool.or_false]; exact hu i hi
    · rw [if_neg c2] at eA hcode
      refine Or.inl ⟨u, hcode.trans ?_⟩
      rw [← hI, eA, if_neg Bool.false_ne_true]
/-! seen: all rows -/
def stS (q : List Nat → Bool) (c : Nat × List Nat) (R : List Nat) : Nat × List Nat := if q R = true then (c.1 + 1, if c.1 = 0 then R else c.2) else c
def snF (q : List Nat → Bool) (m k : Nat) : Nat × List Nat := if k ≤ m then (allR m k).foldl (stS q) (0, []) else (0, [])
def seenQ (kd n : Nat) (w : Nat → Nat) (wt : Nat → Nat) (j : Nat) (R : List Nat) : Bool := hvA (pv (pcs kd n w R)) (pcs kd n w R).length wt j 0 0
theorem countSeen_ok {kd n : Nat} {w : Nat → Nat} {cs : List Nat} {kind links cutCount : Int32} {worths ahead cuts : Nat → Int32} (hV : ChV kd n w cs) (hCC : ChC kd n w cs kind links cutCount worths ahead cuts) {k j : Nat} (hk : k ≤ 3) (hj : j ≤ 8) {wt : Nat → Nat} {wa : Nat → Int32} (hw : ∀ t, t < j → wa t = nI (wt t) ∧ wt t < 2 ^ 31) (row : Nat → Int32) (pc : Int32) (f s v sr : Nat → Int32) : ∃ (csz cbd : Int32) (row' : Nat → Int32) (pc' : Int32) (f' s' v' sr' : Nat → Int32), f_X10_countSeen kind links row pc f s v ahead worths wa sr (nI k) (nI j) = some (nI (snF (seenQ kd n w wt j) (notchN kd n) k).1, csz, cbd, row', pc', f', s', v', sr') ∧ (snF (seenQ kd n w wt j) (notchN kd n) k).1 < 2 ^ 30 ∧ ((snF (seenQ kd n w wt j) (notchN kd n) k).1 = 0 ∨ ∀ i, i < k → sr' i = nI ((snF (seenQ kd n w wt j) (notchN kd n) k).2.getD i 0)) := by
  obtain ⟨g1, g2, g3, g4, g5, g6, g7⟩ := id hV
  obtain ⟨c1, c2, c3, c4, c5, c6⟩ := id hCC
  have hN := notchN_le (kd := kd) (n := n)
  obtain ⟨row0, eb, hrow0⟩ := beginC_ok (m := notchN kd n) (k := k) (by omega) (by omega) row
  unfold f_X10_countSeen
  rw [c1, c2, notches_ok g1 g2 g3, Option.bind_some, eb, Option.bind_some]
  dsimp only
  unfold L_X10_countSeen_22
  generalize hQ : seenQ kd n w wt j = Q
  generalize hS : snF Q (notchN kd n) k = S
  refine loopR _ (fun o => ∃ (csz cbd : Int32) (row' : Nat → Int32) (pc' : Int32) (f' s' v' sr' : Nat → Int32), o = some (nI S.1, csz, cbd, row', pc', f', s', v', sr') ∧ S.1 < 2 ^ 30 ∧ (S.1 = 0 ∨ ∀ i, i < k → sr' i = nI (S.2.getD i 0))) (fun μ a => ∃ (t : Nat) (C : Nat × List Nat) (more : Int32) (row' : Nat → Int32) (pc' : Int32) (f' s' v' sr' : Nat → Int32), a = (nI C.1, more, nI t, row', pc', f', s', v', sr') ∧ t ≤ 25 ^ 4 ∧ C.1 ≤ t ∧ (C.1 = 0 ∨ ∀ i, i < k → sr' i = nI (C.2.getD i 0)) ∧ ((more = 0 ∧ S = C) ∨ (more = 1 ∧ ∃ (R : List Nat) (fu : Nat), RV (notchN kd n) k R ∧ RR R row' ∧ (rowsF (notchN kd n) fu R).foldl (stS Q) C = S ∧ 25 ^ 4 ≤ fu + rk R ∧ t ≤ rk R ∧ μ = 25 ^ 4 + 1 - rk R))) ?_ FUEL (25 ^ 4 + 1 - rk (upl 0 k)) _ ?_ (fuel_lt (by omega))
  · rintro μ a ⟨t, C, more, row', pc', f', s', v', sr', rfl, ht, hCt, hsr, hcase⟩ rec
    have hkt : ¬ (1000000 : Int32) ≤ nI t := nI_ge (b := 1000000) (by omega) (by decide)
    rcases hcase with ⟨rfl, rfl⟩ | ⟨rfl, R, fu, hRV, hRR, hfold, hfu, htr, rfl⟩
    · refine Or.inl ⟨nI k, nI (notchN kd n), row', pc', f', s', v', sr', ?_, by omega, hsr⟩
      show LB_X10_countSeen_22 _ _ _ _ _ _ _ _ _ _ rec (nI S.1) 0 (nI t) row' pc' f' s' v' sr' = _
      unfold LB_X10_countSeen_22
      rw [if_neg hkt, if_pos rfl]
      rfl
    · refine Or.inr ?_
      have hrk := RV_rk (by omega) (show k ≤ 4 by omega) hRV
      obtain ⟨fu, rfl⟩ : ∃ q, fu = q + 1 := ⟨fu - 1, by omega⟩
      have hVR := ChV_row hV (by omega) hRV
      obtain ⟨hl, f1, s1, v1, es, hPA⟩ := split_ok hVR c5 c4 hRR (z1 := 4) (by rw [hRV.1]; omega) (by decide) f' s' v'
      have hha := haveAll_ok (wt := wt) (wa := wa) hl hj (fun i hi => by have := (PaV_of hVR).2.2 i hi; omega) (PA_v hPA) hw
      have hq : hvA (pv (pcs kd n w R)) (pcs kd n w R).length wt j 0 0 = Q R := by rw [← hQ]; rfl
      rw [hq] at hha
      rw [hRV.1] at es
      have hnew : ∃ (C1 : Nat × List Nat) (sr1 : Nat → Int32), stS Q C R = C1 ∧ C1.1 ≤ t + 1 ∧ (C1.1 = 0 ∨ ∀ i, i < k → sr1 i = nI (C1.2.getD i 0)) ∧ LB_X10_countSeen_22 (nI kd) (nI n) (nI k) (nI (notchN kd n)) ahead worths wa (nI k) (nI j) (fun t => B_X10_countSeen_108 (nI k) (nI (notchN kd n)) t.2.2.2.1 t.2.2.2.2.1 t.2.2.2.2.2.1 t.2.2.2.2.2.2.1 t.2.2.2.2.2.2.2.1 t.2.2.2.2.2.2.2.2 t.1) rec (nI C.1) 1 (nI t) row' pc' f' s' v' sr' = B_X10_countSeen_93 (fun t => B_X10_countSeen_108 (nI k) (nI (notchN kd n)) t.2.2.2.1 t.2.2.2.2.1 t.2.2.2.2.2.1 t.2.2.2.2.2.2.1 t.2.2.2.2.2.2.2.1 t.2.2.2.2.2.2.2.2 t.1) rec (nI k) (nI (notchN kd n)) row' (nI (pcs kd n w R).length) f1 s1 v1 sr1 (nI C1.1) (nI t) := by
        unfold LB_X10_countSeen_22 B_X10_countSeen_90
        rw [if_neg hkt, if_neg n10, es, Option.bind_some]
        dsimp only
        rw [hha, Option.bind_some]
        by_cases q : Q R = true
        · rw [if_pos q, if_neg n10]
          by_cases c0 : C.1 = 0
          · refine ⟨(C.1 + 1, R), va_cpy row' sr' 0 0 k, ?_, by show C.1 + 1 ≤ _; omega, Or.inr (fun i hi => ?_), ?_⟩
            · unfold stS; rw [if_pos q, if_pos c0]
            · show va_cpy row' sr' 0 0 k i = _
              rw [cpy0 hi]; exact hRR i (by rw [hRV.1]; exact hi)
            · rw [if_pos (by rw [c0]; rfl), ob_t (by
                unfold cpb
                simp only [Bool.and_eq_true, decide_eq_true_eq]
                rw [nI_clamp (by omega)]
                exact ⟨⟨⟨⟨by decide, by decide⟩, nI_pos (by omega)⟩, by show 0 + k ≤ 4; omega⟩, by show 0 + k ≤ 3; omega⟩), nI_1, nI_clamp (by omega)]
              rfl
          · refine ⟨(C.1 + 1, C.2), sr', ?_, by show C.1 + 1 ≤ _; omega, Or.inr ?_, ?_⟩
            · unfold stS; rw [if_pos q, if_neg c0]
            · rcases hsr with z | z
              · exact absurd z c0
              · exact z
            · rw [if_neg (nI_nz (by omega) c0), nI_1]
        · rw [if_neg q, if_pos rfl]
          exact ⟨C, sr', by unfold stS; rw [if_neg q], by omega, hsr, rfl⟩
      obtain ⟨C1, sr1, hst, hC1, hsr1, hstep⟩ := hnew
      show ∃ μ' b, μ' < _ ∧ _ ∧ LB_X10_countSeen_22 _ _ _ _ _ _ _ _ _ _ rec (nI C.1) 1 (nI t) row' pc' f' s' v' sr' = _
      rw [hstep]
      unfold B_X10_countSeen_93
      rw [nI_1]
      rcases step_ok hRV (by omega) (by omega) hRR with ⟨en, e⟩ | ⟨R', row2, en, hRV', hRR', e⟩
      · rw [e, Option.bind_some]
        refine ⟨0, _, by omega, ⟨t + 1, C1, 0, row', _, f1, s1, v1, sr1, rfl, by omega, hC1, hsr1, Or.inl ⟨rfl, ?_⟩⟩, rfl⟩
        rw [← hfold, rowsF_none en]; exact hst
      · rw [e, Option.bind_some]
        have hrk2 := (rk_nxt R R' (fun c hc => by have := hRV.2.2 c hc; omega) en).1
        have hrk3 := RV_rk (by omega) (show k ≤ 4 by omega) hRV'
        refine ⟨25 ^ 4 + 1 - rk R', _, by omega, ⟨t + 1, C1, 1, row2, _, f1, s1, v1, sr1, rfl, by omega, hC1, hsr1, Or.inr ⟨rfl, R', fu, hRV', hRR', ?_, by omega, by omega, rfl⟩⟩, rfl⟩
        rw [← hfold, rowsF_some en, List.foldl_cons, hst]
  · by_cases hkm : k ≤ notchN kd n
    · rw [if_pos hkm]
      refine ⟨0, (0, []), 1, row0, pc, f, s, v, sr, rfl, by decide, by decide, Or.inl rfl, Or.inr ⟨rfl, upl 0 k, 25 ^ 4, RV_upl hkm, hrow0, ?_, by omega, by omega, rfl⟩⟩
      rw [← hS]; unfold snF; rw [if_pos hkm]; rfl
    · rw [if_neg hkm]
      refine ⟨0, (0, []), 0, row0, pc, f, s, v, sr, rfl, by decide, by decide, Or.inl rfl, Or.inl ⟨rfl, ?_⟩⟩
      rw [← hS]; unfold snF; rw [if_neg hkm]
theorem seenM_ok {kd n : Nat} {w : Nat → Nat} {cs : List Nat} {mw : Nat → Int32} (hV : ChV kd n w cs) (hM : ChM kd n w cs 0 mw) {k j q i : Nat} (hk : k ≤ 3) (hj : j ≤ 8) (hq : q < 4) (hi : i + j ≤ 24) {wt : Nat → Nat} {items : Nat → Int64} (hw : ∀ t, t < j → items (24 * q + i + t) = lN (wt t) ∧ wt t < 2 ^ 31) (pc rs : Int32) (row f s v us : Nat → Int32) (p6 : Int32) : ∃ (fs : Int32) (pc' rs' : Int32) (row' f' s' v' us' : Nat → Int32), B_X11_seen_125 pc items mw row f s v us (nI k) (nI q) (nI i) (nI j) p6 = B_X11_seen_213 pc' rs' row' f' s' v' us' (nI k) p6 (nI (snF (seenQ kd n w wt j) (notchN kd n) k).1) fs ∧ ((snF (seenQ kd n w wt j) (notchN kd n) k).1 = 0 ∨ (fs = nI (mask (snF (seenQ kd n w wt j) (notchN kd n) k).2) ∧ RV (notchN kd n) k (snF (seenQ kd n w wt j) (notchN kd n) k).2)) := by
  obtain ⟨g1, g2, g3, g4, g5, g6, g7⟩ := id hV
  have hN := notchN_le (kd := kd) (n := n)
  have hno := notchesM_ok g1 g2 g3 hM.1 hM.2.1
  obtain ⟨row0, eb, hrow0⟩ := beginM_ok (show k ≤ 4 by omega) row
  generalize hQ : seenQ kd n w wt j = Q
  generalize hS : snF Q (notchN kd n) k = S
  have e24 : (24 : Int32) * nI q + nI i = nI (24 * q + i) := by
    rw [show (24 : Int32) * nI q = nI (24 * q) from pk_mul 24 q, nI_add]
  have main : ∀ more0 : Int32, ((more0 = 0 ∧ ¬ k ≤ notchN kd n) ∨ (more0 = 1 ∧ k ≤ notchN kd n)) → ∃ (fs : Int32) (pc' rs' : Int32) (row' f' s' v' us' : Nat → Int32), B_X11_seen_144 pc items mw row f s v us (nI k) (nI q) (nI i) (nI j) p6 0 0 more0 = B_X11_seen_213 pc' rs' row' f' s' v' us' (nI k) p6 (nI S.1) fs ∧ (S.1 = 0 ∨ (fs = nI (mask S.2) ∧ RV (notchN kd n) k S.2)) := by
    intro more0 hmore
    unfold B_X11_seen_144
    rw [eb, Option.bind_some]
    dsimp only
    unfold L_X11_seen_151
    refine loopR _ (fun o => ∃ (fs : Int32) (pc' rs' : Int32) (row' f' s' v' us' : Nat → Int32), o = B_X11_seen_213 pc' rs' row' f' s' v' us' (nI k) p6 (nI S.1) fs ∧ (S.1 = 0 ∨ (fs = nI (mask S.2) ∧ RV (notchN kd n) k S.2))) (fun μ a => ∃ (C : Nat × List Nat) (fs more : Int32) (pc' rs' : Int32) (row' f' s' v' us' : Nat → Int32), a = (nI C.1, fs, more, pc', rs', row', f', s', v', us') ∧ C.1 ≤ 25 ^ 4 ∧ (C.1 = 0 ∨ (fs = nI (mask C.2) ∧ RV (notchN kd n) k C.2)) ∧ ((more = 0 ∧ S = C) ∨ (more = 1 ∧ ∃ (R : List Nat) (fu : Nat), RV (notchN kd n) k R ∧ rs' = nI (mask R) ∧ RR R row' ∧ (rowsF (notchN kd n) fu R).foldl (stS Q) C = S ∧ 25 ^ 4 ≤ fu + rk R ∧ C.1 ≤ rk R ∧ μ = 25 ^ 4 + 1 - rk R))) ?_ FUEL (25 ^ 4 + 1 - rk (upl 0 k)) _ ?_ (fuel_lt (by omega))
    · rintro μ a ⟨C, fs, more, pc', rs', row', f', s', v', us', rfl, hC, hfs, hcase⟩ rec
      rcases hcase with ⟨rfl, rfl⟩ | ⟨rfl, R, fu, hRV, rfl, hRR, hfold, hfu, hCr, rfl⟩
      · refine Or.inl ⟨fs, pc', rs', row', f', s', v', us', ?_, hfs⟩
        show LB_X11_seen_151 _ _ _ _ _ _ _ rec (nI S.1) fs 0 pc' rs' row' f' s' v' us' = _
        unfold LB_X11_seen_151
        rw [if_pos rfl]
      · refine Or.inr ?_
        have hrk := RV_rk (by omega) (show k ≤ 4 by omega) hRV
        obtain ⟨fu, rfl⟩ : ∃ z, fu = z + 1 := ⟨fu - 1, by omega⟩
        have hVR := ChV_row hV (by omega) hRV
        obtain ⟨f1, s1, v1, el, hPA⟩ := lay_ok hVR hM.1 hM.2.1 (M_ew hM) f' s' v'
        have hl := (PaV_of hVR).1
        obtain ⟨us1, eh⟩ := holds_ok (wt := wt) (b := 24 * q + i) hl hj (by omega) (fun i hi => by have := (PaV_of hVR).2.2 i hi; omega) (PA_v hPA) hw us'
        have hq2 : hvA (pv (pcs kd n w R)) (pcs kd n w R).length wt j 0 0 = Q R := by rw [← hQ]; rfl
        rw [hq2] at eh
        have hnew : ∃ (C1 : Nat × List Nat) (fs1 : Int32), stS Q C R = C1 ∧ C1.1 ≤ C.1 + 1 ∧ (C1.1 = 0 ∨ (fs1 = nI (mask C1.2) ∧ RV (notchN kd n) k C1.2)) ∧ LB_X11_seen_151 items mw (nI k) (nI q) (nI i) (nI j) (fun t => B_X11_seen_213 t.2.2.2.1 t.2.2.2.2.1 t.2.2.2.2.2.1 t.2.2.2.2.2.2.1 t.2.2.2.2.2.2.2.1 t.2.2.2.2.2.2.2.2.1 t.2.2.2.2.2.2.2.2.2 (nI k) p6 t.1 t.2.1) rec (nI C.1) fs 1 pc' (nI (mask R)) row' f' s' v' us' = B_X11_seen_199 (fun t => B_X11_seen_213 t.2.2.2.1 t.2.2.2.2.1 t.2.2.2.2.2.1 t.2.2.2.2.2.2.1 t.2.2.2.2.2.2.2.1 t.2.2.2.2.2.2.2.2.1 t.2.2.2.2.2.2.2.2.2 (nI k) p6 t.1 t.2.1) rec (nI (pcs kd n w R).length) (nI (mask R)) mw row' f1 s1 v1 us1 (nI k) (nI C1.1) fs1 := by
          unfold LB_X11_seen_151 B_X11_seen_194
          rw [if_neg n10, el, Option.bind_some]
          dsimp only
          rw [e24, eh, Option.bind_some]
          dsimp only
          by_cases qq : Q R = true
          · rw [if_pos qq, if_neg n10]
            by_cases c0 : C.1 = 0
            · refine ⟨(C.1 + 1, R), nI (mask R), ?_, Nat.le_refl _, Or.inr ⟨rfl, hRV⟩, ?_⟩
              · unfold stS; rw [if_pos qq, if_pos c0]
              · rw [if_pos (by rw [c0]; rfl), nI_1]
            · refine ⟨(C.1 + 1, C.2), fs, ?_, Nat.le_refl _, Or.inr ?_, ?_⟩
              · unfold stS; rw [if_pos qq, if_neg c0]
              · rcases hfs with z | z
                · exact absurd z c0
                · exact z
              · rw [if_neg (nI_nz (by omega) c0), nI_1]
          · rw [if_neg qq, if_pos rfl]
            exact ⟨C, fs, by unfold stS; rw [if_neg qq], by omega, hfs, rfl⟩
        obtain ⟨C1, fs1, hst, hC1, hfs1, hstep⟩ := hnew
        show ∃ μ' b, μ' < _ ∧ _ ∧ LB_X11_seen_151 _ _ _ _ _ _ _ rec (nI C.1) fs 1 pc' (nI (mask R)) row' f' s' v' us' = _
        rw [hstep]
        unfold B_X11_seen_199
        rw [hno, Option.bind_some]
        rcases goesOn_ok hRV (by omega) (by omega) hRR (nI (mask R)) with ⟨en, e⟩ | ⟨R', row2, en, hRV', hRR', e⟩
        · rw [e, Option.bind_some]
          refine ⟨0, _, by omega, ⟨C1, fs1, 0, _, _, row', f1, s1, v1, us1, rfl, by omega, hfs1, Or.inl ⟨rfl, ?_⟩⟩, rfl⟩
          rw [← hfold, rowsF_none en]; exact hst
        · rw [e, Option.bind_some]
          have hrk2 := (rk_nxt R R' (fun c hc => by have := hRV.2.2 c hc; omega) en).1
          have hrk3 := RV_rk (by omega) (show k ≤ 4 by omega) hRV'
          refine ⟨25 ^ 4 + 1 - rk R', _, by omega, ⟨C1, fs1, 1, _, _, row2, f1, s1, v1, us1, rfl, by omega, hfs1, Or.inr ⟨rfl, R', fu, hRV', rfl, hRR', ?_, by omega, by omega, rfl⟩⟩, rfl⟩
          rw [← hfold, rowsF_some en, List.foldl_cons, hst]
    · rcases hmore with ⟨rfl, hkm⟩ | ⟨rfl, hkm⟩
      · refine ⟨(0, []), 0, 0, pc, _, row0, f, s, v, us, rfl, by decide, Or.inl rfl, Or.inl ⟨rfl, ?_⟩⟩
        rw [← hS]; unfold snF; rw [if_neg hkm]
      · refine ⟨(0, []), 0, 1, pc, _, row0, f, s, v, us, rfl, by decide, Or.inl rfl, Or.inr ⟨rfl, upl 0 k, 25 ^ 4, RV_upl hkm, rfl, hrow0, ?_, by omega, by omega, rfl⟩⟩
        rw [← hS]; unfold snF; rw [if_pos hkm]; rfl
  unfold B_X11_seen_125
  rw [hno, Option.bind_some]
  by_cases hkm : k ≤ notchN kd n
  · rw [if_neg (nI_nlt hkm (by omega))]
    exact main 1 (Or.inr ⟨rfl, hkm⟩)
  · rw [if_pos (nI_lt (by omega) (by omega))]
    exact main 0 (Or.inl ⟨rfl, hkm⟩)
def GdI (x : Int64) : Prop := (1 : Int64) ≤ x ∧ x ≤ (999 : Int64)
theorem GdI_nat {x : Int64} (h : GdI x) : ∃ y, 1 ≤ y ∧ y ≤ 999 ∧ x = lN y := by
  have a := Int64.le_iff_toInt_le.mp h.1
  have b := Int64.le_iff_toInt_le.mp h.2
  rw [show (1 : Int64).toInt = 1 by decide] at a
  rw [show (999 : Int64).toInt = 999 by decide] at b
  refine ⟨x.toInt.toNat, by omega, by omega, ?_⟩
  apply Int64.toInt_inj.mp
  rw [lN_toInt (by omega)]
  omega
theorem takeW_ok {i j : Nat} {it : Nat → Int64} (hj : j ≤ 8) (hi : i + j ≤ 24) (wa : Nat → Int32) : ∃ wa', (f_X10_takeWanted wa it (nI i) (nI j) = some (1, wa') ∧ ∀ t, t < j → GdI (it (i + t)) ∧ wa' t = (it (i + t)).toInt32) ∨ (f_X10_takeWanted wa it (nI i) (nI j) = some (0, wa') ∧ ∃ t, t < j ∧ ¬ GdI (it (i + t))) := by
  unfold f_X10_takeWanted L_X10_takeWanted_3
  refine upQ _ (fun o => ∃ wa' : Nat → Int32, (o = some (1, wa') ∧ ∀ t, t < j → GdI (it (i + t)) ∧ wa' t = (it (i + t)).toInt32) ∨ (o = some (0, wa') ∧ ∃ t, t < j ∧ ¬ GdI (it (i + t)))) j (fun t u => ∀ t', t' < t → GdI (it (i + t')) ∧ u t' = (it (i + t')).toInt32) (by omega) ?_ ?_ (j := 0) (s := wa) (by omega) (fun t' h => absurd h (by omega))
  · intro t u ht hI
    have e1 : nI i + nI t = nI (i + t) := nI_add i t
    have ib : inb (nI (i + t)) 24 = true := inb_nI (by omega) (by decide)
    by_cases c1 : it (i + t) < 1
    · refine Or.inl (fun rec => ⟨u, Or.inr ⟨?_, t, ht, fun z => Int64.not_lt.mpr z.1 c1⟩⟩)
      show LB_X10_takeWanted_3 _ _ _ _ rec (nI t) u = _
      unfold LB_X10_takeWanted_3
      rw [if_neg (nI_ge ht (by omega)), e1, ob_t ib, nI_clamp (by omega), if_pos (lgc_lt.mpr c1)]
      rfl
    · by_cases c2 : it (i + t) ≤ 999
      · refine Or.inr ⟨upd u t (it (i + t)).toInt32, fun t' h' => ?_, fun rec => ?_⟩
        · by_cases e : t' = t
          · rw [e, pk_us]; exact ⟨⟨Int64.not_lt.mp c1, c2⟩, rfl⟩
          · rw [pk_un e]; exact hI t' (by omega)
        · show LB_X10_takeWanted_3 _ _ _ _ rec (nI t) u = _
          unfold LB_X10_takeWanted_3
          rw [if_neg (nI_ge ht (by omega)), e1, ob_t ib, nI_clamp (by omega), if_neg (fun z => c1 (lgc_lt.mp z)), if_pos (lgc_le.mpr c2), ob_t (inb_nI (by omega) (by decide)), nI_clamp (by omega), nI_1]
      · refine Or.inl (fun rec => ⟨u, Or.inr ⟨?_, t, ht, fun z => c2 z.2⟩⟩)
        show LB_X10_takeWanted_3 _ _ _ _ rec (nI t) u = _
        unfold LB_X10_takeWanted_3
        rw [if_neg (nI_ge ht (by omega)), e1, ob_t ib, nI_clamp (by omega), if_neg (fun z => c1 (lgc_lt.mp z)), if_neg (fun z => c2 (lgc_le.mp z))]
        rfl
  · intro u hI rec
    refine ⟨u, Or.inl ⟨?_, hI⟩⟩
    show LB_X10_takeWanted_3 _ _ _ _ rec (nI j) u = _
    unfold LB_X10_takeWanted_3
    rw [if_pos (nI_le (Nat.le_refl _) (by omega))]
    rfl
theorem takeM_ok {q i j : Nat} {items : Nat → Int64} (hq : q < 4) (hj : j ≤ 8) (hi : i + j ≤ 24) (pc rs : Int32) (row f s v us : Nat → Int32) (kx : Int32 → Option (Int32 × Int32 × Int32 × (Nat → Int32) × (Nat → Int32) × (Nat → Int32) × (Nat → Int32) × (Nat → Int32))) : (L_X11_seen_84 pc rs items row f s v us (nI q) (nI i) (nI j) kx FUEL 0 = kx (nI j) ∧ ∀ t, t < j → GdI (items (24 * q + i + t))) ∨ (L_X11_seen_84 pc rs items row f s v us (nI q) (nI i) (nI j) kx FUEL 0 = some (-2, pc, rs, row, f, s, v, us) ∧ ∃ t, t < j ∧ ¬ GdI (items (24 * q + i + t))) := by
  unfold L_X11_seen_84
  refine upQ0 _ (fun o => (o = kx (nI j) ∧ ∀ t, t < j → GdI (items (24 * q + i + t))) ∨ (o = some (-2, pc, rs, row, f, s, v, us) ∧ ∃ t, t < j ∧ ¬ GdI (items (24 * q + i + t)))) j (fun t => ∀ t', t' < t → GdI (items (24 * q + i + t'))) (by omega) ?_ ?_ (j := 0) (by omega) (fun t' h => absurd h (by omega))
  · intro t ht hI
    have e1 : (24 : Int32) * nI q + nI i + nI t = nI (24 * q + i + t) := by
      rw [show (24 : Int32) * nI q = nI (24 * q) from pk_mul 24 q, nI_add, nI_add]
    have hcode : ∀ rec, LB_X11_seen_84 pc rs items row f s v us (nI q) (nI i) (nI j) kx rec (nI t) = if ((1 : Int64) ≤ items (24 * q + i + t) ∧ items (24 * q + i + t) ≤ (999 : Int64)) then rec (nI (t + 1)) else some (-2, pc, rs, row, f, s, v, us) := fun rec => by
      unfold LB_X11_seen_84
      rw [if_neg (nI_ge ht (by omega)), e1, ob_t (inb_nI (by omega) (by decide)), nI_clamp (by omega), in_ok, Option.bind_some, nI_1]
      by_cases c : (1 : Int64) ≤ items (24 * q + i + t) ∧ items (24 * q + i + t) ≤ (999 : Int64)
      · rw [if_pos c, if_pos c, if_neg n10]
      · rw [if_neg c, if_neg c, if_pos rfl]
    by_cases c : (1 : Int64) ≤ items (24 * q + i + t) ∧ items (24 * q + i + t) ≤ (999 : Int64)
    · refine Or.inr ⟨fun t' h' => ?_, fun rec => (hcode rec).trans (if_pos c)⟩
      by_cases e : t' = t
      · rw [e]; exact c
      · exact hI t' (by omega)
    · exact Or.inl (fun rec => Or.inr ⟨(hcode rec).trans (if_neg c), t, ht, c⟩)
  · intro hI rec
    refine Or.inl ⟨?_, hI⟩
    show LB_X11_seen_84 _ _ _ _ _ _ _ _ _ _ _ _ rec (nI j) = _
    unfold LB_X11_seen_84
    rw [if_pos (nI_le (Nat.le_refl _) (by omega))]
theorem tq_seen {x_hasImage : Int32} {x_chain_kind : Int32} {x_chain_links : Int32} {x_chain_cutCount : Int32} {x_best_known : Nat → Int32} {x_chain_worths : Nat → Int32} {x_chain_ahead : Nat → Int32} {x_chain_cuts : Nat → Int32} {x_tape_length : Int32} {x_tape_bytes : Nat → Int32} {x_draft_ahead : Nat → Int32} {x_pieces_count : Int32} {x_pieces_first : Nat → Int32} {x_pieces_size : Nat → Int32} {x_pieces_value : Nat → Int32} {x_days_each : Int32} {x_days_off : Int32} {x_days_twice : Int32} {x_days_dues : Nat → Int32} {x_sets_whole : Int32} {x_sets_pieceCount : Int32} {x_sets_lookedBack : Int32} {x_sets_worths : Nat → Int32} {x_sets_ends : Nat → Int32} {x_sets_order : Nat → Int32} {x_sets_notes : Nat → Int32} {x_best_far : Nat → Int32} {x_choice_size : Int32} {x_choice_bound : Int32} {x_choice_row : Nat → Int32} {x_best_rows : Nat → Nat → Int32} {x_sets_lookedAt : Nat → Int32} {x_imageChain_kind : Int32} {x_imageChain_links : Int32} {x_imageChain_cutCount : Int32} {x_imageChain_worths : Nat → Int32} {x_imageChain_ahead : Nat → Int32} {x_imageChain_cuts : Nat → Int32} {x_imageDays_each : Int32} {x_imageDays_off : Int32} {x_imageDays_twice : Int32} {x_imageDays_dues : Nat → Int32} {x_wanted : Nat → Int32} {x_seenRow : Nat → Int32} {x_sheets_there : Nat → Int32} {x_sheets_lane : Nat → Int32} {x_sheets_length : Nat → Int32} {x_sheets_items : Nat → Nat → Int64} {y_isKept : Int32} {y_taped : Int32} {y_pieces : Int32} {y_rowSet : Int32} {y_w : Nat → Int32} {y_firsts : Nat → Int32} {y_sizes : Nat → Int32} {y_worths : Nat → Int32} {y_tape : Nat → Int32} {y_row : Nat → Int32} {y_lanes : Nat → Int32} {y_longs : Nat → Int32} {y_used : Nat → Int32} {y_items : Nat → Int64} (hR : Rel x_chain_kind x_chain_links x_chain_cutCount x_chain_worths x_chain_ahead x_chain_cuts x_days_each x_days_off x_days_twice x_days_dues x_best_known x_best_far x_best_rows x_hasImage x_imageChain_kind x_imageChain_links x_imageChain_cutCount x_imageChain_worths x_imageChain_ahead x_imageChain_cuts x_imageDays_each x_imageDays_off x_imageDays_twice x_imageDays_dues x_tape_length x_tape_bytes x_sheets_there x_sheets_lane x_sheets_length x_sheets_items x_draft_ahead x_sets_whole x_sets_pieceCount x_sets_lookedBack x_sets_worths x_sets_lookedAt x_sets_ends x_sets_order x_sets_notes y_w y_isKept y_taped y_tape y_lanes y_longs y_items) (p0 : Int32) (p1 : Int32) (p2 : Int32) (p3 : Int32) (p4 : Int32) (p5 : Int32) : ∃ (rx : Int32 × (Nat → Int32) × Int32 × Int32 × (Nat → Int32) × Int32 × (Nat → Int32) × (Nat → Int32) × (Nat → Int32) × (Nat → Int32)) (ry : Int32 × Int32 × Int32 × (Nat → Int32) × (Nat → Int32) × (Nat → Int32) × (Nat → Int32) × (Nat → Int32)), f_X10_seen x_sheets_there x_sheets_lane x_sheets_length x_wanted x_sheets_items x_chain_kind x_chain_links x_choice_size x_choice_bound x_choice_row x_pieces_count x_pieces_first x_pieces_size x_pieces_value x_chain_ahead x_chain_worths x_seenRow p0 p1 p2 p3 p4 p5 = some rx ∧ f_X11_seen y_pieces y_rowSet y_lanes y_longs y_items y_w y_row y_firsts y_sizes y_worths y_used p0 p1 p2 p3 p4 p5 = some ry ∧ rx.1 = ry.1 ∧ Rel x_chain_kind x_chain_links x_chain_cutCount x_chain_worths x_chain_ahead x_chain_cuts x_days_each x_days_off x_days_twice x_days_dues x_best_known x_best_far x_best_rows x_hasImage x_imageChain_kind x_imageChain_links x_imageChain_cutCount x_imageChain_worths x_imageChain_ahead x_imageChain_cuts x_imageDays_each x_imageDays_off x_imageDays_twice x_imageDays_dues x_tape_length x_tape_bytes x_sheets_there x_sheets_lane x_sheets_length x_sheets_items x_draft_ahead x_sets_whole x_sets_pieceCount x_sets_lookedBack x_sets_worths x_sets_lookedAt x_sets_ends x_sets_order x_sets_notes y_w y_isKept y_taped y_tape y_lanes y_longs y_items := by
  obtain ⟨hC, hI, hT, hS⟩ := id hR
  obtain ⟨kd, n, w, cs, r, off, dbl, hV, hCC, hM, hDV, hDC, hD, hB⟩ := id hC
  obtain ⟨g1, g2, g3, g4, g5, g6, g7⟩ := id hV
  have hN := notchN_le (kd := kd) (n := n)
  unfold f_X10_seen f_X11_seen B_X10_seen_38 B_X11_seen_59 B_X10_seen_124 B_X10_seen_112 B_X10_seen_124
  rw [within_ok, isRow_ok, within_ok, within_ok, in_lit p0 0 3 (by decide) (by decide), isSheet_ok, in_lit p2 0 2 (by decide) (by decide), in_lit p4 1 8 (by decide) (by decide), in_lit p5 (-1) 2 (by decide) (by decide)]
  simp only [Option.bind_some]
  by_cases h0 : (0 : Int32) ≤ p0 ∧ p0 ≤ 3
  · rw [if_pos h0, if_neg n10, if_neg n10]
    by_cases h1 : (0 : Int32) ≤ p1 ∧ p1 ≤ 3
    · rw [if_pos h1, if_neg (c := (1 : Int32) = 0) n10]
      by_cases h2 : (0 : Int32) ≤ p2 ∧ p2 ≤ 2
      · rw [if_pos h2, if_pos (c := ((0 : Int32) ≤ p1 ∧ p1 ≤ 3) ∧ ((0 : Int32) ≤ p2 ∧ p2 ≤ 2)) ⟨h1, h2⟩, if_neg n10, if_neg n10]
        by_cases h4 : (1 : Int32) ≤ p4 ∧ p4 ≤ 8
        · rw [if_pos h4, if_neg n10, if_neg n10]
          by_cases h5 : (-1 : Int32) ≤ p5 ∧ p5 ≤ 2
          · rw [if_pos h5, if_neg n10, if_neg n10]
            obtain ⟨k, hk, rfl⟩ := nat_of (N := 3) (M := 3) (by decide) h0
            obtain ⟨q, hq, rfl⟩ := nat_of (N := 3) (M := 3) (by decide) h1
            obtain ⟨j, hj, rfl⟩ := nat_of (N := 8) (M := 8) (by decide) ⟨Int32.le_trans (by decide) h4.1, h4.2⟩
            have iq : inb (nI q) 4 = true := inb_nI (by omega) (by decide)
            rw [ob_t iq, ob_t iq, nI_clamp (by omega)]
            obtain ⟨z, ez1, ez2, hz⟩ := ref_bars hS (show q < 4 by omega) p2 p3 (nI j)
            rw [ez1, ez2]
            simp only [Option.bind_some]
            by_cases z0 : z = 0
            · obtain ⟨-, -, -, L, hL, -, -, b1, b2, b3⟩ := hz z0
              rw [if_pos z0, if_pos z0]
              obtain ⟨i, rfl, ei, -⟩ := nat_of_toInt b1
              rw [nI_toInt (show j < 2 ^ 31 by omega)] at b3
              have hij : i + j ≤ 24 := by omega
              have hit : ∀ t, t < j → x_sheets_items q (i + t) = y_items (24 * q + i + t) := fun t ht => by
                rw [(hS q (by omega)).2.2 (i + t) (by omega), Nat.add_assoc]
              obtain ⟨wa', hcl⟩ := takeW_ok (it := x_sheets_items q) hj hij x_wanted
              have hrf := takeM_ok (items := y_items) (show q < 4 by omega) hj hij y_pieces y_rowSet y_row y_firsts y_sizes y_worths y_used (fun t => B_X11_seen_125 y_pieces y_items y_w y_row y_firsts y_sizes y_worths y_used (nI k) (nI q) (nI i) (nI j) p5)
              rcases hcl with ⟨e1, k1⟩ | ⟨e1, t, t1, t2⟩
              · rcases hrf with ⟨e2, k2⟩ | ⟨e2, t, t1, t2⟩
                · rw [e1, e2]
                  simp only [Option.bind_some]
                  rw [if_neg n10]
                  have hwt : ∀ t, ∃ y, t < j → 1 ≤ y ∧ y ≤ 999 ∧ y_items (24 * q + i + t) = lN y := fun t => by
                    by_cases c : t < j
                    · obtain ⟨y, y1, y2, y3⟩ := GdI_nat (k2 t c)
                      exact ⟨y, fun _ => ⟨y1, y2, y3⟩⟩
                    · exact ⟨0, fun h => absurd h c⟩
                  obtain ⟨wt, hwt⟩ := Classical.axiomOfChoice hwt
                  obtain ⟨csz, cbd, row1, pc1, f1, s1, v1, sr1, e3, hb3, h3⟩ := countSeen_ok hV hCC hk hj (wt := wt) (wa := wa') (fun t ht => by
                    have a := hwt t ht
                    rw [(k1 t ht).2, hit t ht, a.2.2, lN_i]
                    exact ⟨rfl, by omega⟩) x_choice_row x_pieces_count x_pieces_first x_pieces_size x_pieces_value x_seenRow
                  obtain ⟨fs, pc2, rs2, row2, f2, s2, v2, us2, e4, h4'⟩ := seenM_ok hV hM hk hj (show q < 4 by omega) hij (wt := wt) (items := y_items) (fun t ht => by
                    have a := hwt t ht
                    exact ⟨a.2.2, by omega⟩) y_pieces y_rowSet y_row y_firsts y_sizes y_worths y_used p5
                  rw [e3, e4]
                  simp only [Option.bind_some]
                  unfold B_X11_seen_213 B_X11_seen_234 B_X11_seen_246
                  generalize snF (seenQ kd n w wt j) (notchN kd n) k = S at *
                  by_cases c5 : (0 : Int32) ≤ p5
                  · rw [if_pos c5, if_pos c5]
                    by_cases c6 : S.1 = 0
                    · rw [if_pos (by rw [c6]; rfl), if_pos (by rw [c6]; rfl)]
                      exact ⟨_, _, rfl, rfl, rfl, hR⟩
                    · have c7 : ¬ nI S.1 = 0 := nI_nz (by omega) c6
                      rw [if_neg c7, if_neg c7]
                      obtain ⟨y, hy, rfl⟩ := nat_of (N := 2) (M := 2) (by decide) ⟨c5, h5.2⟩
                      by_cases c8 : y < k
                      · have r1 := h3.resolve_left c6
                        have r2 := h4'.resolve_left c6
                        rw [if_pos (nI_lt c8 (by omega)), if_pos (nI_lt c8 (by omega)), ob_t (inb_nI (by omega) (by decide)), nI_clamp (by omega), r1 y c8, r2.1, atOf_ok r2.2.2.1 (fun c hc => by have := r2.2.2.2 c hc; omega) (by rw [r2.2.1]; exact c8) (by omega)]
                        simp only [Option.bind_some]
                        exact ⟨_, _, rfl, rfl, rfl, hR⟩
                      · rw [if_neg (nI_nlt (by omega) (by omega)), if_neg (nI_nlt (by omega) (by omega))]
                        exact ⟨_, _, rfl, rfl, rfl, hR⟩
                  · rw [if_neg c5, if_neg c5]
                    exact ⟨_, _, rfl, rfl, rfl, hR⟩
                · exact absurd (by rw [← hit t t1]; exact (k1 t t1).1) t2
              · rcases hrf with ⟨e2, k2⟩ | ⟨e2, -⟩
                · exact absurd (by rw [hit t t1]; exact k2 t t1) t2
                · rw [e1, e2]
                  simp only [Option.bind_some]
                  rw [if_pos trivial]
                  exact ⟨_, _, rfl, rfl, rfl, hR⟩
            · rw [if_neg z0, if_neg z0]
              exact ⟨_, _, rfl, rfl, rfl, hR⟩
          · rw [if_neg h5, if_pos rfl, if_pos rfl]
            exact ⟨_, _, rfl, rfl, rfl, hR⟩
        · rw [if_neg h4, if_pos rfl, if_pos rfl]
          exact ⟨_, _, rfl, rfl, rfl, hR⟩
      · rw [if_neg h2, if_neg (c := ((0 : Int32) ≤ p1 ∧ p1 ≤ 3) ∧ ((0 : Int32) ≤ p2 ∧ p2 ≤ 2)) (fun z => h2 z.2), if_pos rfl, if_pos rfl]
        exact ⟨_, _, rfl, rfl, rfl, hR⟩
    · rw [if_neg h1, if_neg (c := ((0 : Int32) ≤ p1 ∧ p1 ≤ 3) ∧ ((0 : Int32) ≤ p2 ∧ p2 ≤ 2)) (fun z => h1 z.1), if_pos rfl, if_pos rfl]
      exact ⟨_, _, rfl, rfl, rfl, hR⟩
  · rw [if_neg h0, if_pos rfl, if_pos rfl]
    exact ⟨_, _, rfl, rfl, rfl, hR⟩
