/-! most, fewest -/
theorem runD_ge (q : Nat → Bool) : ∀ f d, d ≤ runD q f d
  | 0, d => Nat.le_refl _
  | f + 1, d => by
    show d ≤ (if q (d + 1) = true then runD q f (d + 1) else d)
    have := runD_ge q f (d + 1)
    split <;> omega
theorem runD_mono {p q : Nat → Bool} (h : ∀ d, p d = true → q d = true) : ∀ f d, runD p f d ≤ runD q f d
  | 0, d => Nat.le_refl _
  | f + 1, d => by
    show (if p (d + 1) = true then runD p f (d + 1) else d) ≤ (if q (d + 1) = true then runD q f (d + 1) else d)
    by_cases hp : p (d + 1) = true
    · rw [if_pos hp, if_pos (h _ hp)]; exact runD_mono h f (d + 1)
    · rw [if_neg hp]
      exact runD_ge q (f + 1) d
def topN (n : Nat) (w : Nat → Nat) (r off dbl : Nat) : Nat := runD (fun d => decide (dueF r off dbl d ≤ pre w n)) 60 0
theorem far_top (kd n : Nat) (w : Nat → Nat) (r off dbl : Nat) (cs : List Nat) : farF kd n w r off dbl cs ≤ topN n w r off dbl := by
  refine runD_mono (fun d h => ?_) 60 0
  rw [SB_vals] at h
  have h1 := SBn_le _ _ _ h
  have h2 := pcs_sum kd n w cs
  exact decide_eq_true (by omega)
theorem farF_le (kd n : Nat) (w : Nat → Nat) (r off dbl : Nat) (cs : List Nat) : farF kd n w r off dbl cs ≤ 60 := by
  have := runD_le (fun d => (SB (vals kd n w cs)).testBit (dueF r off dbl d)) 60 0
  unfold farF; omega
theorem top_le (n : Nat) (w : Nat → Nat) (r off dbl : Nat) : topN n w r off dbl ≤ 60 := by
  have := runD_le (fun d => decide (dueF r off dbl d ≤ pre w n)) 60 0
  unfold topN; omega
theorem covered_ok {n : Nat} {w : Nat → Nat} {r off dbl : Nat} (hr : r ≤ 9) (hw : pre w n ≤ 216) {dues : Nat → Int32} (hd : ∀ d, d ≤ 60 → dues d = nI (dueF r off dbl d)) : f_X3_coveredBy dues (nI (pre w n)) = some (nI (topN n w r off dbl)) := by
  unfold f_X3_coveredBy L_X3_coveredBy_2 topN
  generalize hp : (fun d => decide (dueF r off dbl d ≤ pre w n)) = p
  have hp' : ∀ d, p d = decide (dueF r off dbl d ≤ pre w n) := fun d => by rw [← hp]
  refine upQ0 _ (fun o => o = some (nI (runD p 60 0))) 60 (fun d => runD p (60 - d) d = runD p 60 0) (by decide) ?_ ?_ (j := 0) (by omega) rfl
  · intro d hd2 hI
    have hb := due_le (r := r) (off := off) (dbl := dbl) hr (d + 1)
    by_cases hq : dueF r off dbl (d + 1) ≤ pre w n
    · have hp1 : p (d + 1) = true := by rw [hp']; exact decide_eq_true hq
      refine Or.inr ⟨by rw [← runD_step hd2 hp1]; exact hI, fun rec => ?_⟩
      show LB_X3_coveredBy_2 _ _ _ rec (nI d) = _
      unfold LB_X3_coveredBy_2
      rw [if_neg (show ¬ (60 : Int32) ≤ nI d from nI_ge (b := 60) hd2 (by decide)), nI_1, ob_t (inb_nI (by omega) (by decide)), nI_clamp (by omega), hd _ (by omega), if_neg (nI_nlt hq (by omega))]
    · have hp1 : p (d + 1) = false := by rw [hp']; exact decide_eq_false hq
      refine Or.inl (fun rec => ?_)
      show LB_X3_coveredBy_2 _ _ _ rec (nI d) = _
      unfold LB_X3_coveredBy_2
      rw [if_neg (show ¬ (60 : Int32) ≤ nI d from nI_ge (b := 60) hd2 (by decide)), nI_1, ob_t (inb_nI (by omega) (by decide)), nI_clamp (by omega), hd _ (by omega), if_pos (nI_lt (by omega) (by omega)), ← hI, runD_stop (fun _ => hp1)]
      rfl
  · intro hI rec
    show LB_X3_coveredBy_2 _ _ _ rec (nI 60) = _
    unfold LB_X3_coveredBy_2
    rw [if_pos (by decide), ← hI]
    rfl
theorem ChV_row {kd n : Nat} {w : Nat → Nat} {cs : List Nat} (hV : ChV kd n w cs) {k : Nat} (hk : k ≤ 5) {R : List Nat} (h : RV (notchN kd n) k R) : ChV kd n w R := ⟨hV.1, hV.2.1, hV.2.2.1, hV.2.2.2.1, by rw [h.1]; exact hk, h.2.1, h.2.2⟩
theorem RV_nxt {m k : Nat} {R R' : List Nat} (h : RV m k R) (hn : nxt m R = some R') : RV m k R' := by
  rcases nxt_cases h with ⟨h1, -⟩ | ⟨i, hi, hc, -, h1⟩
  · rw [hn] at h1; cases h1
  · rw [hn] at h1
    have := Option.some.inj h1
    subst this
    exact RV_rai h hi hc
theorem rowsF_RV {m k : Nat} : ∀ (n : Nat) (R : List Nat), RV m k R → ∀ S ∈ rowsF m n R, RV m k S
  | 0, R, h, S, hS => by
    have hS' : S ∈ [R] := hS
    rw [List.mem_singleton] at hS'
    rw [hS']; exact h
  | n + 1, R, h, S, hS => by
    rcases e : nxt m R with _ | R'
    · rw [rowsF_none e, List.mem_singleton] at hS
      rw [hS]; exact h
    · rw [rowsF_some e] at hS
      rcases List.mem_cons.mp hS with hS | hS
      · rw [hS]; exact h
      · exact rowsF_RV n R' (RV_nxt h e) S hS
theorem stB_stay {f : List Nat → Nat} {B : List Nat} : ∀ (l : List (List Nat)), (∀ S ∈ l, f S ≤ f B) → l.foldl (stB f) (some B) = some B
  | [], _ => rfl
  | S :: t, h => by
    rw [List.foldl_cons]
    have : stB f (some B) S = some B := by
      show (if f B < f S then some S else some B) = _
      have := h S List.mem_cons_self
      rw [if_neg (by omega)]
    rw [this]
    exact stB_stay t (fun S hS => h S (List.mem_cons_of_mem _ hS))
theorem pow25 {k : Nat} (h : k ≤ 4) : 25 ^ k ≤ 25 ^ 4 := Nat.pow_le_pow_right (by decide) h
theorem RV_rk {m k : Nat} {R : List Nat} (hm : m ≤ 24) (hk : k ≤ 4) (h : RV m k R) : rk R < 25 ^ 4 := by
  have := rk_lt R (fun c hc => by have := h.2.2 c hc; omega)
  rw [h.1] at this
  have := pow25 hk
  omega
/-- what is best so far, in the class's cells -/
def KB (f : List Nat → Nat) (k : Nat) (far0 : Nat → Int32) (rows0 : Nat → Nat → Int32) (b : Option (List Nat)) (far : Nat → Int32) (rows : Nat → Nat → Int32) : Prop := (∀ j, j ≠ k → far j = far0 j ∧ rows j = rows0 j) ∧ ((b = none ∧ far k = -4) ∨ ∃ B, b = some B ∧ far k = nI (f B) ∧ ∀ i, i < k → rows k i = nI (B.getD i 0))
theorem offer_ok {f : List Nat → Nat} {m k : Nat} {far0 : Nat → Int32} {rows0 : Nat → Nat → Int32} {b : Option (List Nat)} {far : Nat → Int32} {rows : Nat → Nat → Int32} (hk : k ≤ 4) (hf : ∀ S, f S ≤ 60) (h : KB f k far0 rows0 b far rows) {R : List Nat} {row : Nat → Int32} (hR : RV m k R) (hr : RR R row) : ∃ far' rows' B, f_X0_offer 4 far rows row (nI k) (nI (f R)) = some (far', rows') ∧ stB f b R = some B ∧ far' k = nI (f B) ∧ KB f k far0 rows0 (some B) far' rows' := by
  obtain ⟨h1, h2⟩ := h
  unfold f_X0_offer B_X0_offer_30
  have ii : inb (nI k) 5 = true := inb_nI (by omega) (by decide)
  rw [ob_t ii, ob_t ii, ob_t ii, nI_clamp (by omega), ob_t (show cpb 0 0 (nI k) 4 4 = true by
    unfold cpb
    rw [nI_clamp (by omega), show (0 : Int32).toNatClampNeg = 0 from rfl]
    simp [nI_pos (show k < 2 ^ 31 by omega), hk]), show (0 : Int32).toNatClampNeg = 0 from rfl]
  have new : KB f k far0 rows0 (some R) (upd far k (nI (f R))) (va_up rows k (va_cpy row (rows k) 0 0 k)) := by
    refine ⟨fun j hj => ?_, Or.inr ⟨R, rfl, pk_us, fun i hi => ?_⟩⟩
    · rw [pk_un hj]
      unfold va_up
      rw [if_neg hj]; exact h1 j hj
    · unfold va_up
      rw [if_pos rfl, cpy0 hi]; exact hr i (by rw [hR.1]; exact hi)
  have hfR := hf R
  rcases h2 with ⟨rfl, e⟩ | ⟨B, rfl, e, hB⟩
  · rw [e, if_neg (by
      rw [Int32.not_le]
      exact Int32.lt_of_lt_of_le (show (-4 : Int32) < 0 by decide) (nI_pos' (by omega)))]
    exact ⟨_, _, R, rfl, rfl, pk_us, new⟩
  · rw [e]
    have hfB := hf B
    by_cases hlt : f B < f R
    · rw [if_neg (nI_ge hlt (by omega))]
      refine ⟨_, _, R, rfl, ?_, pk_us, new⟩
      show (if f B < f R then some R else some B) = _
      rw [if_pos hlt]
    · rw [if_pos (nI_le (by omega) (by omega))]
      refine ⟨_, _, B, rfl, ?_, e, h1, Or.inr ⟨B, rfl, e, hB⟩⟩
      show (if f B < f R then some R else some B) = _
      rw [if_neg hlt]
theorem findBest_ok {kd n : Nat} {w : Nat → Nat} {cs : List Nat} {kind links cutCount : Int32} {worths ahead cuts : Nat → Int32} (hV : ChV kd n w cs) (hCC : ChC kd n w cs kind links cutCount worths ahead cuts) {r off dbl : Nat} (hr : r ≤ 9) {dues : Nat → Int32} (hd : ∀ d, d ≤ 60 → dues d = nI (dueF r off dbl d)) {known far : Nat → Int32} {rows : Nat → Nat → Int32} (hB : BeC kd n w r off dbl known far rows) {k : Nat} (hk : k ≤ 4) (hkm : k ≤ notchN kd n) (csz cbd : Int32) (row : Nat → Int32) (pc : Int32) (f s v : Nat → Int32) (W : Int32) (bits : Nat → Int64) : ∃ (known' far' : Nat → Int32) (csz' cbd' : Int32) (row' : Nat → Int32) (pc' : Int32) (f' s' v' : Nat → Int32) (W' : Int32) (bits' : Nat → Int64) (rows' : Nat → Nat → Int32), f_X10_findBest known far kind links ahead dues csz cbd row pc f s v worths W bits rows (nI k) = some (known', far', csz', cbd', row', pc', f', s', v', W', bits', rows') ∧ BeC kd n w r off dbl known' far' rows' ∧ known' k = 1 := by
  unfold f_X10_findBest
  have ii : inb (nI k) 5 = true := inb_nI (by omega) (by decide)
  rw [ob_t ii, nI_clamp (by omega)]
  rcases hB k hk with h0 | ⟨h1, -⟩
  · rw [if_pos h0, ob_t ii]
    obtain ⟨g1, g2, g3, g4, g5, g6, g7⟩ := id hV
    obtain ⟨c1, c2, c3, c4, c5, c6⟩ := id hCC
    have hN := notchN_le (kd := kd) (n := n)
    have hpre : pre w n ≤ 216 := by have := pre_le n (fun i hi => (g4 i hi).2); omega
    have ew : f_X1_whole links ahead = some (nI (pre w n)) := by
      unfold f_X1_whole
      rw [c2, ob_t (inb_nI (by omega) (by decide)), nI_clamp (by omega), c5 n (Nat.le_refl _)]
    obtain ⟨row0, eb, hrow0⟩ := beginC_ok (m := notchN kd n) (k := k) (by omega) hk row
    rw [ew, Option.bind_some, covered_ok hr hpre hd, Option.bind_some, c1, c2, notches_ok g1 g2 g3, Option.bind_some, eb, Option.bind_some, if_pos hkm]
    dsimp only
    generalize hF : farF kd n w r off dbl = F
    have hF60 : ∀ S, F S ≤ 60 := fun S => by rw [← hF]; exact farF_le _ _ _ _ _ _ _
    have htop : ∀ S, F S ≤ topN n w r off dbl := fun S => by rw [← hF]; exact far_top _ _ _ _ _ _ _
    have ht60 := top_le n w r off dbl
    have hfin : ∀ (far' : Nat → Int32) (rows' : Nat → Nat → Int32) (B : List Nat), KB F k far rows (some B) far' rows' → bst F (notchN kd n) k = some B → BeC kd n w r off dbl (upd known k (vp_nar .boolean (1 : Int32))) far' rows' := by
      intro far' rows' B hKB hb j hj
      by_cases e : j = k
      · subst e
        refine Or.inr ⟨pk_us.trans rfl, hkm, B, ?_, ?_, ?_⟩
        · rw [hF]; exact hb
        · rcases hKB.2 with ⟨z, -⟩ | ⟨B', e1, e2, -⟩
          · cases z
          · have := Option.some.inj e1; subst this; rw [hF]; exact e2
        · rcases hKB.2 with ⟨z, -⟩ | ⟨B', e1, -, e3⟩
          · cases z
          · have := Option.some.inj e1; subst this; exact e3
      · rw [pk_un e]
        have := hKB.1 j e
        rw [this.1, this.2]
        exact hB j hj
    unfold L_X10_findBest_58
    refine loopR _ (fun o => ∃ (known' far' : Nat → Int32) (csz' cbd' : Int32) (row' : Nat → Int32) (pc' : Int32) (f' s' v' : Nat → Int32) (W' : Int32) (bits' : Nat → Int64) (rows' : Nat → Nat → Int32), o = some (known', far', csz', cbd', row', pc', f', s', v', W', bits', rows') ∧ BeC kd n w r off dbl known' far' rows' ∧ known' k = 1) (fun μ a => ∃ (t : Nat) (far' row' : Nat → Int32) (pc' : Int32) (f' s' v' : Nat → Int32) (W' : Int32) (bits' : Nat → Int64) (rows' : Nat → Nat → Int32) (more : Int32), a = (more, nI t, far', row', pc', f', s', v', W', bits', rows') ∧ t ≤ 25 ^ 4 ∧ ((more = 0 ∧ μ = 0 ∧ ∃ B, bst F (notchN kd n) k = some B ∧ KB F k far rows (some B) far' rows') ∨ (more = 1 ∧ ∃ (R : List Nat) (b : Option (List Nat)) (fu : Nat), RV (notchN kd n) k R ∧ RR R row' ∧ KB F k far rows b far' rows' ∧ (rowsF (notchN kd n) fu R).foldl (stB F) b = bst F (notchN kd n) k ∧ 25 ^ 4 ≤ fu + rk R ∧ t ≤ rk R ∧ μ = 25 ^ 4 + 1 - rk R))) ?_ FUEL (25 ^ 4 + 1 - rk (upl 0 k)) _ ⟨0, _, row0, pc, f, s, v, W, bits, rows, 1, rfl, by decide, Or.inr ⟨rfl, upl 0 k, none, 25 ^ 4, RV_upl hkm, hrow0, ⟨fun j hj => ⟨pk_un hj, rfl⟩, Or.inl ⟨rfl, pk_us⟩⟩, rfl, by omega, by omega, rfl⟩⟩ (fuel_lt (by omega))
    · rintro μ a ⟨t, far', row', pc', f', s', v', W', bits', rows', more, rfl, ht, hcase⟩ rec
      have hkt : nI t < (1000000 : Int32) := nI_lt (b := 1000000) (by omega) (by decide)
      rcases hcase with ⟨rfl, rfl, B, hb, hKB⟩ | ⟨rfl, R, b, fu, hRV, hRR, hKB, hfold, hfu, htr, rfl⟩
      · refine Or.inl ?_
        show ∃ (known' far' : Nat → Int32) (csz' cbd' : Int32) (row' : Nat → Int32) (pc' : Int32) (f' s' v' : Nat → Int32) (W' : Int32) (bits' : Nat → Int64) (rows' : Nat → Nat → Int32), LB_X10_findBest_58 _ _ _ _ _ _ _ _ _ _ rec 0 (nI t) _ _ _ _ _ _ _ _ _ = _ ∧ _
        unfold LB_X10_findBest_58
        rw [if_neg (Int32.not_le.mpr hkt), if_pos rfl]
        dsimp only
        unfold B_X10_findBest_164
        rw [ob_t ii, nI_clamp (by omega)]
        exact ⟨_, _, _, _, _, _, _, _, _, _, _, _, rfl, hfin _ _ B hKB hb, pk_us.trans rfl⟩
      · refine Or.inr ?_
        have hrk := RV_rk (by omega) hk hRV
        obtain ⟨fu, rfl⟩ : ∃ q, fu = q + 1 := ⟨fu - 1, by omega⟩
        have hVR := ChV_row hV (by omega) hRV
        obtain ⟨-, f1, s1, v1, es, hPA⟩ := split_ok hVR c5 c4 hRR (z1 := 4) (by rw [hRV.1]; exact hk) (by decide) f' s' v'
        obtain ⟨W1, b1, el, edr, -⟩ := farC hVR hr hd hPA bits'
        obtain ⟨far1, rows1, B, eo, hst, hfB, hKB1⟩ := offer_ok hk hF60 hKB hRV hRR
        rw [hRV.1] at es
        rw [hF] at edr
        have hB60 := hF60 B
        show ∃ μ' b, μ' < _ ∧ _ ∧ LB_X10_findBest_58 _ _ _ _ _ _ _ _ _ _ rec 1 (nI t) far' row' pc' f' s' v' W' bits' rows' = _
        unfold LB_X10_findBest_58 B_X10_findBest_156 B_X10_findBest_157
        rw [if_neg (Int32.not_le.mpr hkt), if_neg n10, es, Option.bind_some]
        dsimp only
        rw [el, Option.bind_some]
        dsimp only
        rw [edr, Option.bind_some, eo, Option.bind_some, ob_t ii, nI_clamp (by omega)]
        dsimp only
        rw [nI_1]
        by_cases hcut : topN n w r off dbl ≤ F B
        · rw [if_pos (by rw [hfB]; exact nI_le hcut (by omega))]
          refine ⟨0, _, by omega, ⟨t + 1, far1, row', _, f1, s1, v1, _, b1, rows1, 0, rfl, by omega, Or.inl ⟨rfl, rfl, B, ?_, hKB1⟩⟩, rfl⟩
          rw [← hfold]
          rcases e : nxt (notchN kd n) R with _ | R'
          · rw [rowsF_none e]; exact hst
          · rw [rowsF_some e, List.foldl_cons, hst]
            exact stB_stay _ (fun S hS => Nat.le_trans (htop S) hcut)
        · rw [if_neg (by rw [hfB]; exact nI_ge (by omega) (by omega))]
          rcases step_ok hRV (by omega) hk hRR with ⟨en, e⟩ | ⟨R', row2, en, hRV', hRR', e⟩
          · rw [e, Option.bind_some, if_pos rfl]
            refine ⟨0, _, by omega, ⟨t + 1, far1, row', _, f1, s1, v1, _, b1, rows1, 0, rfl, by omega, Or.inl ⟨rfl, rfl, B, ?_, hKB1⟩⟩, rfl⟩
            rw [← hfold, rowsF_none en]; exact hst
          · rw [e, Option.bind_some, if_neg n10]
            have hrk2 := (rk_nxt R R' (fun c hc => by have := hRV.2.2 c hc; omega) en).1
            have hrk3 := RV_rk (by omega) hk hRV'
            refine ⟨25 ^ 4 + 1 - rk R', _, by omega, ⟨t + 1, far1, row2, _, f1, s1, v1, _, b1, rows1, 1, rfl, by omega, Or.inr ⟨rfl, R', some B, fu, hRV', hRR', hKB1, ?_, by omega, by omega, rfl⟩⟩, rfl⟩
            rw [← hfold, rowsF_some en, List.foldl_cons, hst]
  · rw [if_neg (by rw [h1]; exact n10)]
    exact ⟨_, _, _, _, _, _, _, _, _, _, _, _, rfl, hB, h1⟩
theorem bst_some {f : List Nat → Nat} {m k : Nat} (n : Nat) (R : List Nat) (b : Option (List Nat)) : ∃ B, (rowsF m n R).foldl (stB f) b = some B := by
  have h1 : ∀ (l : List (List Nat)) (B : List Nat), ∃ B', l.foldl (stB f) (some B) = some B' := by
    intro l
    induction l with
    | nil => intro B; exact ⟨B, rfl⟩
    | cons S t ih =>
      intro B
      rw [List.foldl_cons]
      show ∃ B', t.foldl (stB f) (if f B < f S then some S else some B) = some B'
      split
      · exact ih S
      · exact ih B
  have h2 : ∃ t, rowsF m n R = R :: t := by
    cases n with
    | zero => exact ⟨[], rfl⟩
    | succ n => exact ⟨_, rfl⟩
  obtain ⟨t, e⟩ := h2
  rw [e, List.foldl_cons]
  cases b with
  | none => exact h1 t R
  | some B =>
    show ∃ B', t.foldl (stB f) (if f B < f R then some R else some B) = some B'
    split
    · exact h1 t R
    · exact h1 t B
/-- what is best so far, in the reference's -/
def KM (f : List Nat → Nat) (m k : Nat) (b : Option (List Nat)) (most bset : Int32) : Prop := (b = none ∧ most = -1) ∨ ∃ B, b = some B ∧ RV m k B ∧ most = nI (f B) ∧ bset = nI (mask B)
theorem findMost_ok {kd n : Nat} {w : Nat → Nat} {cs : List Nat} {mw : Nat → Int32} (hV : ChV kd n w cs) (hM : ChM kd n w cs 0 mw) {r off dbl : Nat} (hr : r ≤ 9) {dues : Nat → Int32} (hd : ∀ d, d ≤ 60 → dues d = nI (dueF r off dbl d)) {k : Nat} (hk : k ≤ 4) (hkm : k ≤ notchN kd n) (pc rs bs : Int32) (row f s v : Nat → Int32) (sums : Nat → Int64) : ∃ (B : List Nat) (pc' rs' : Int32) (row' f' s' v' : Nat → Int32) (sums' : Nat → Int64), bst (farF kd n w r off dbl) (notchN kd n) k = some B ∧ RV (notchN kd n) k B ∧ f_X11_findMost pc rs bs mw row f s v sums dues (nI k) = some (nI (farF kd n w r off dbl B), pc', rs', nI (mask B), row', f', s', v', sums') := by
  obtain ⟨g1, g2, g3, g4, g5, g6, g7⟩ := id hV
  have hN := notchN_le (kd := kd) (n := n)
  have hno := notchesM_ok g1 g2 g3 hM.1 hM.2.1
  obtain ⟨row0, eb, hrow0⟩ := beginM_ok hk row
  unfold f_X11_findMost
  rw [hno, Option.bind_some, if_pos (nI_le hkm (by omega)), eb, Option.bind_some]
  dsimp only
  generalize hF : farF kd n w r off dbl = F
  have hF60 : ∀ S, F S ≤ 60 := fun S => by rw [← hF]; exact farF_le _ _ _ _ _ _ _
  unfold L_X11_findMost_20
  refine loopR _ (fun o => ∃ (B : List Nat) (pc' rs' : Int32) (row' f' s' v' : Nat → Int32) (sums' : Nat → Int64), bst F (notchN kd n) k = some B ∧ RV (notchN kd n) k B ∧ o = some (nI (F B), pc', rs', nI (mask B), row', f', s', v', sums')) (fun μ a => ∃ (most more pc' rs' bs' : Int32) (row' f' s' v' : Nat → Int32) (sums' : Nat → Int64), a = (most, more, pc', rs', bs', row', f', s', v', sums') ∧ ((more = 0 ∧ μ = 0 ∧ ∃ B, bst F (notchN kd n) k = some B ∧ KM F (notchN kd n) k (some B) most bs') ∨ (more = 1 ∧ ∃ (R : List Nat) (b : Option (List Nat)) (fu : Nat), RV (notchN kd n) k R ∧ rs' = nI (mask R) ∧ RR R row' ∧ KM F (notchN kd n) k b most bs' ∧ (rowsF (notchN kd n) fu R).foldl (stB F) b = bst F (notchN kd n) k ∧ 25 ^ 4 ≤ fu + rk R ∧ μ = 25 ^ 4 + 1 - rk R))) ?_ FUEL (25 ^ 4 + 1 - rk (upl 0 k)) _ ⟨-1, 1, pc, _, bs, row0, f, s, v, sums, rfl, Or.inr ⟨rfl, upl 0 k, none, 25 ^ 4, RV_upl hkm, rfl, hrow0, Or.inl ⟨rfl, rfl⟩, rfl, by omega, rfl⟩⟩ (fuel_lt (by omega))
  rintro μ a ⟨most, more, pc', rs', bs', row', f', s', v', sums', rfl, hcase⟩ rec
  rcases hcase with ⟨rfl, rfl, B, hb, hKM⟩ | ⟨rfl, R, b, fu, hRV, rfl, hRR, hKM, hfold, hfu, rfl⟩
  · refine Or.inl ?_
    rcases hKM with ⟨z, -⟩ | ⟨B', e1, e2, rfl, rfl⟩
    · cases z
    · have := Option.some.inj e1
      subst this
      refine ⟨B, pc', rs', row', f', s', v', sums', hb, e2, ?_⟩
      show LB_X11_findMost_20 _ _ _ _ rec (nI (F B)) 0 pc' rs' (nI (mask B)) row' f' s' v' sums' = _
      unfold LB_X11_findMost_20
      rw [if_pos rfl]
      rfl
  · refine Or.inr ?_
    have hrk := RV_rk (by omega) hk hRV
    obtain ⟨fu, rfl⟩ : ∃ q, fu = q + 1 := ⟨fu - 1, by omega⟩
    have hVR := ChV_row hV (by omega) hRV
    obtain ⟨f1, s1, v1, b1, ef, hPA⟩ := farM hVR hr hM.1 hM.2.1 (M_ew hM) hd f' s' v' sums'
    rw [hF] at ef
    have hR60 := hF60 R
    have hnew : ∃ (B : List Nat) (most1 bs1 : Int32), stB F b R = some B ∧ KM F (notchN kd n) k (some B) most1 bs1 ∧ ∀ rec, LB_X11_findMost_20 mw dues (nI k) (fun t => B_X11_findMost_81 t.2.2.1 t.2.2.2.1 t.2.2.2.2.1 t.2.2.2.2.2.1 t.2.2.2.2.2.2.1 t.2.2.2.2.2.2.2.1 t.2.2.2.2.2.2.2.2.1 t.2.2.2.2.2.2.2.2.2 t.1) rec most 1 pc' (nI (mask R)) bs' row' f' s' v' sums' = B_X11_findMost_67 (fun t => B_X11_findMost_81 t.2.2.1 t.2.2.2.1 t.2.2.2.2.1 t.2.2.2.2.2.1 t.2.2.2.2.2.2.1 t.2.2.2.2.2.2.2.1 t.2.2.2.2.2.2.2.2.1 t.2.2.2.2.2.2.2.2.2 t.1) rec (nI (pcs kd n w R).length) (nI (mask R)) bs1 mw row' f1 s1 v1 b1 (nI k) most1 := by
      unfold LB_X11_findMost_20 B_X11_findMost_52
      rw [ef]
      rcases hKM with ⟨rfl, rfl⟩ | ⟨B, rfl, hRB, rfl, rfl⟩
      · have hlt : ¬ nI (F R) ≤ -1 := by
          rw [Int32.not_le]
          exact Int32.lt_of_lt_of_le (show (-1 : Int32) < 0 by decide) (nI_pos' (by omega))
        refine ⟨R, nI (F R), nI (mask R), rfl, Or.inr ⟨R, rfl, hRV, rfl, rfl⟩, fun rec => ?_⟩
        rw [if_neg n10, Option.bind_some]
        dsimp only
        rw [if_neg hlt, if_neg hlt]
      · have hB60 := hF60 B
        by_cases hlt : F B < F R
        · refine ⟨R, nI (F R), nI (mask R), ?_, Or.inr ⟨R, rfl, hRV, rfl, rfl⟩, fun rec => ?_⟩
          · show (if F B < F R then some R else some B) = _
            rw [if_pos hlt]
          · have h2 : ¬ nI (F R) ≤ nI (F B) := nI_ge hlt (by omega)
            rw [if_neg n10, Option.bind_some]
            dsimp only
            rw [if_neg h2, if_neg h2]
        · refine ⟨B, nI (F B), nI (mask B), ?_, Or.inr ⟨B, rfl, hRB, rfl, rfl⟩, fun rec => ?_⟩
          · show (if F B < F R then some R else some B) = _
            rw [if_neg hlt]
          · have h2 : nI (F R) ≤ nI (F B) := nI_le (by omega) (by omega)
            rw [if_neg n10, Option.bind_some]
            dsimp only
            rw [if_pos h2, if_pos h2]
    obtain ⟨B, most1, bs1, hst, hKM1, hstep⟩ := hnew
    show ∃ μ' b, μ' < _ ∧ _ ∧ LB_X11_findMost_20 _ _ _ _ rec most 1 pc' (nI (mask R)) bs' row' f' s' v' sums' = _
    rw [hstep]
    unfold B_X11_findMost_67
    rw [hno, Option.bind_some]
    rcases goesOn_ok hRV (by omega) hk hRR (nI (mask R)) with ⟨en, e⟩ | ⟨R', row2, en, hRV', hRR', e⟩
    · rw [e, Option.bind_some]
      refine ⟨0, _, by omega, ⟨most1, 0, _, _, bs1, row', f1, s1, v1, b1, rfl, Or.inl ⟨rfl, rfl, B, ?_, hKM1⟩⟩, rfl⟩
      rw [← hfold, rowsF_none en]; exact hst
    · rw [e, Option.bind_some]
      have hrk2 := (rk_nxt R R' (fun c hc => by have := hRV.2.2 c hc; omega) en).1
      have hrk3 := RV_rk (by omega) hk hRV'
      refine ⟨25 ^ 4 + 1 - rk R', _, by omega, ⟨most1, 1, _, _, bs1, row2, f1, s1, v1, b1, rfl, Or.inr ⟨rfl, R', some B, fu, hRV', rfl, hRR', hKM1, ?_, by omega, rfl⟩⟩, rfl⟩
      rw [← hfold, rowsF_some en, List.foldl_cons, hst]
