/-! late: which parts of the cuts pay on which days -/
def selN (cs : List Nat) (p : Nat) : Nat → List Nat
  | 0 => []
  | i + 1 => if p.testBit i = true then selN cs p i ++ [cs.getD i 0] else selN cs p i
theorem selN_in (cs : List Nat) (p : Nat) : ∀ m, ∀ c, c ∈ selN cs p m → ∃ i, i < m ∧ cs.getD i 0 = c
  | 0, c, h => by
    have h : c ∈ ([] : List Nat) := h
    cases h
  | m + 1, c, h => by
    have h : c ∈ (if p.testBit m = true then selN cs p m ++ [cs.getD m 0] else selN cs p m) := h
    by_cases b : p.testBit m = true
    · rw [if_pos b] at h
      rcases List.mem_append.mp h with h | h
      · obtain ⟨i, h1, h2⟩ := selN_in cs p m c h
        exact ⟨i, by omega, h2⟩
      · exact ⟨m, by omega, (List.mem_singleton.mp h).symm⟩
    · rw [if_neg b] at h
      obtain ⟨i, h1, h2⟩ := selN_in cs p m c h
      exact ⟨i, by omega, h2⟩
theorem selN_srt {cs : List Nat} (p : Nat) (hs : cs.Pairwise (· < ·)) : ∀ m, m ≤ cs.length → (selN cs p m).Pairwise (· < ·)
  | 0, _ => List.Pairwise.nil
  | m + 1, hm => by
    show (if p.testBit m = true then selN cs p m ++ [cs.getD m 0] else selN cs p m).Pairwise (· < ·)
    have ih := selN_srt p hs m (by omega)
    by_cases b : p.testBit m = true
    · rw [if_pos b]
      refine List.pairwise_append.mpr ⟨ih, List.pairwise_singleton _ _, fun a ha c hc => ?_⟩
      rw [List.mem_singleton.mp hc]
      obtain ⟨i, h1, h2⟩ := selN_in cs p m a ha
      rw [← h2]
      exact srt_iff.mp hs i m h1 (by omega)
    · rw [if_neg b]; exact ih
theorem selN_len (cs : List Nat) (p : Nat) : ∀ m, (selN cs p m).length ≤ m
  | 0 => Nat.le_refl _
  | m + 1 => by
    have ih := selN_len cs p m
    show (if p.testBit m = true then selN cs p m ++ [cs.getD m 0] else selN cs p m).length ≤ m + 1
    by_cases b : p.testBit m = true
    · rw [if_pos b, List.length_append]
      show (selN cs p m).length + 1 ≤ _
      omega
    · rw [if_neg b]; omega
theorem ChV_sel {kd n : Nat} {w : Nat → Nat} {cs : List Nat} (hV : ChV kd n w cs) (p : Nat) : ChV kd n w (selN cs p cs.length) := by
  obtain ⟨g1, g2, g3, g4, g5, g6, g7⟩ := id hV
  refine ⟨g1, g2, g3, g4, Nat.le_trans (selN_len cs p _) g5, selN_srt p g6 _ (Nat.le_refl _), fun c hc => ?_⟩
  obtain ⟨i, h1, h2⟩ := selN_in cs p _ c hc
  rw [← h2]
  exact g7 _ (gD_mem h1)
theorem selN_full {cs : List Nat} : ∀ m, m ≤ cs.length → ∀ p, (∀ i, i < m → p.testBit i = true) → selN cs p m = cs.take m
  | 0, _, _, _ => by rw [List.take_zero]; rfl
  | m + 1, hm, p, hp => by
    show (if p.testBit m = true then selN cs p m ++ [cs.getD m 0] else selN cs p m) = _
    rw [if_pos (hp m (by omega)), selN_full m (by omega) p (fun i hi => hp i (by omega)), gD (by omega), List.take_succ_eq_append_getElem (by omega)]
theorem choosePart_ok {cs : List Nat} {cuts : Nat → Int32} {p : Nat} (h5 : cs.length ≤ 5) (hp : p < 2 ^ 31) (hc : ∀ i, i < cs.length → cuts i = nI (cs.getD i 0)) (row : Nat → Int32) : ∃ row', f_X4_choosePart row (nI cs.length) cuts (nI p) = some (nI (selN cs p cs.length).length, row') ∧ RR (selN cs p cs.length) row' := by
  unfold f_X4_choosePart L_X4_choosePart_5
  refine loopR _ (fun o => ∃ row', o = some (nI (selN cs p cs.length).length, row') ∧ RR (selN cs p cs.length) row') (fun m a => ∃ i r, a = (nI (selN cs p i).length, nI i, r) ∧ i ≤ cs.length ∧ m = cs.length - i ∧ RR (selN cs p i) r) ?_ FUEL cs.length _ ⟨0, row, rfl, Nat.zero_le _, rfl, fun i hi => absurd hi (by show ¬ i < 0; omega)⟩ (fuel_lt (by omega))
  rintro m a ⟨i, r, rfl, hi, rfl, hr⟩ rec
  by_cases e : i = cs.length
  · subst e
    refine Or.inl ⟨r, ?_, hr⟩
    show LB_X4_choosePart_5 _ _ _ _ rec _ (nI cs.length) r = _
    unfold LB_X4_choosePart_5
    rw [if_pos (nI_le (Nat.le_refl _) (by omega))]
    rfl
  · have hl := selN_len cs p i
    right
    by_cases b : p.testBit i = true
    · have es : selN cs p (i + 1) = selN cs p i ++ [cs.getD i 0] := if_pos b
      refine ⟨cs.length - (i + 1), (nI (selN cs p (i + 1)).length, nI (i + 1), upd r (selN cs p i).length (nI (cs.getD i 0))), by omega, ⟨i + 1, _, rfl, by omega, rfl, fun k hk => ?_⟩, ?_⟩
      · rw [es, List.length_append] at hk
        have hk : k < (selN cs p i).length + 1 := hk
        rw [es]
        by_cases c : k = (selN cs p i).length
        · rw [c, pk_us, gDb (Nat.le_refl _), Nat.sub_self]; rfl
        · rw [pk_un c, gDa (by omega)]; exact hr k (by omega)
      · show LB_X4_choosePart_5 _ _ _ _ rec _ (nI i) r = _
        unfold LB_X4_choosePart_5 B_X4_choosePart_39
        rw [if_neg (nI_ge (by omega) (by omega)), if_neg (fun z => by rw [(free_bit hp (by omega)).mp z] at b; cases b), ob_t (inb_nI (by omega) (by decide)), ob_t (inb_nI (by omega) (by decide)), nI_clamp (by omega), nI_clamp (by omega), hc i (by omega), nI_1, nI_1, es, List.length_append]
        rfl
    · have es : selN cs p (i + 1) = selN cs p i := if_neg b
      refine ⟨cs.length - (i + 1), (nI (selN cs p (i + 1)).length, nI (i + 1), r), by omega, ⟨i + 1, _, rfl, by omega, rfl, by rw [es]; exact hr⟩, ?_⟩
      show LB_X4_choosePart_5 _ _ _ _ rec _ (nI i) r = _
      unfold LB_X4_choosePart_5 B_X4_choosePart_39
      rw [if_neg (nI_ge (by omega) (by omega)), if_pos ((free_bit hp (by omega)).mpr (by simpa using b)), nI_1, es]
/-- days as bits -/
def DB (P : Nat → Bool) (n acc : Nat) : Prop := acc < 2 ^ 61 ∧ ∀ e, acc.testBit e = (decide (1 ≤ e ∧ e ≤ n) && P e)
theorem DB_0 (P : Nat → Bool) : DB P 0 0 := ⟨by decide, fun e => by rw [Nat.zero_testBit, decide_eq_false (by omega)]; rfl⟩
theorem DB_step {P : Nat → Bool} {n acc : Nat} (hn : n < 60) (h : DB P n acc) : (P (n + 1) = true → DB P (n + 1) (acc ||| 2 ^ (n + 1))) ∧ (P (n + 1) = false → DB P (n + 1) acc) := by
  constructor
  · intro hp
    refine ⟨Nat.or_lt_two_pow h.1 (Nat.pow_lt_pow_right (by decide) (by omega)), fun e => ?_⟩
    rw [Nat.testBit_or, h.2 e, Nat.testBit_two_pow]
    by_cases c : e = n + 1
    · rw [c, hp, decide_eq_true rfl, decide_eq_true (show 1 ≤ n + 1 ∧ n + 1 ≤ n + 1 by omega)]; simp
    · rw [decide_eq_false (show ¬ n + 1 = e from fun z => c z.symm), Bool.or_false]
      by_cases c2 : 1 ≤ e ∧ e ≤ n
      · rw [decide_eq_true c2, decide_eq_true (show 1 ≤ e ∧ e ≤ n + 1 by omega)]
      · rw [decide_eq_false c2, decide_eq_false (show ¬ (1 ≤ e ∧ e ≤ n + 1) by omega)]
  · intro hp
    refine ⟨h.1, fun e => ?_⟩
    rw [h.2 e]
    by_cases c : e = n + 1
    · rw [c, hp, Bool.and_false, Bool.and_false]
    · by_cases c2 : 1 ≤ e ∧ e ≤ n
      · rw [decide_eq_true c2, decide_eq_true (show 1 ≤ e ∧ e ≤ n + 1 by omega)]
      · rw [decide_eq_false c2, decide_eq_false (show ¬ (1 ≤ e ∧ e ≤ n + 1) by omega)]
theorem shl1L {d : Nat} (h : d < 64) : (1 : Int64) <<< ((nI d).toInt64 &&& (63 : Int64)) = lN (2 ^ d) := by
  rw [show (1 : Int64) = lN 1 from rfl, shl64 h, Nat.one_mul]
theorem paidDays_ok {P : Nat → Bool} {W : Int32} {g : Nat → Int64} {dues : Nat → Int32} (h : ∀ d, 1 ≤ d → d ≤ 60 → f_X8_has W g (dues d) = some (if P d = true then 1 else 0)) : ∃ acc, f_X8_paidDays 61 W g dues = some (lN acc) ∧ DB P 60 acc := by
  unfold f_X8_paidDays L_X8_paidDays_5
  refine loopR _ (fun o => ∃ acc, o = some (lN acc) ∧ DB P 60 acc) (fun m a => ∃ d acc, a = (lN acc, nI (d + 1)) ∧ d ≤ 60 ∧ m = 60 - d ∧ DB P d acc) ?_ FUEL 60 _ ⟨0, 0, rfl, by omega, rfl, DB_0 P⟩ (fuel_lt (by decide))
  rintro m a ⟨d, acc, rfl, hd, rfl, hI⟩ rec
  by_cases e : d = 60
  · subst e
    refine Or.inl ⟨acc, ?_, hI⟩
    show LB_X8_paidDays_5 _ _ _ _ _ rec (lN acc) (nI 61) = _
    unfold LB_X8_paidDays_5
    rw [if_pos (by decide)]
    rfl
  · right
    have hs := DB_step (show d < 60 by omega) hI
    have hcode : LB_X8_paidDays_5 61 W g dues (fun t => B_X8_paidDays_36 t.1) rec (lN acc) (nI (d + 1)) = if P (d + 1) = true then rec (lN (acc ||| 2 ^ (d + 1)), nI (d + 1 + 1)) else rec (lN acc, nI (d + 1 + 1)) := by
      unfold LB_X8_paidDays_5 B_X8_paidDays_30
      rw [if_neg (show ¬ (60 : Int32) < nI (d + 1) from nI_nlt (a := 60) (by omega) (by decide)), ob_t (inb_nI (by omega) (by decide)), nI_clamp (by omega), h _ (by omega) (by omega), Option.bind_some, nI_1, shl1L (by omega), orL]
      by_cases c : P (d + 1) = true
      · rw [if_pos c, if_neg n10, if_pos c]
      · rw [if_neg c, if_pos rfl, if_neg c]
    by_cases c : P (d + 1) = true
    · rw [if_pos c] at hcode
      exact ⟨60 - (d + 1), _, by omega, ⟨d + 1, _, rfl, by omega, rfl, hs.1 c⟩, hcode⟩
    · rw [if_neg c] at hcode
      exact ⟨60 - (d + 1), _, by omega, ⟨d + 1, _, rfl, by omega, rfl, hs.2 (by simpa using c)⟩, hcode⟩
/-- whether a part pays on a day -/
def Pd (kd n : Nat) (w : Nat → Nat) (r off dbl : Nat) (cs : List Nat) (p d : Nat) : Bool := (SB (vals kd n w (selN cs p cs.length))).testBit (dueF r off dbl d)
/-- the class's row of parts -/
def PdR (P : Nat → Nat → Bool) (m N : Nat) (paid : Nat → Int64) : Prop := ∀ p, p < N → ∃ acc, paid p = lN acc ∧ DB (P p) m acc
theorem lateC_paid {kd n : Nat} {w : Nat → Nat} {cs : List Nat} {kind links cutCount : Int32} {worths ahead cuts : Nat → Int32} (hV : ChV kd n w cs) (hCC : ChC kd n w cs kind links cutCount worths ahead cuts) {r off dbl : Nat} (hr : r ≤ 9) {dues : Nat → Int32} (hd : ∀ d, d ≤ 60 → dues d = nI (dueF r off dbl d)) (kx : Int32 × Int32 × (Nat → Int32) × (Nat → Int32) × (Nat → Int32) × Int32 × (Nat → Int64) × (Nat → Int32) × (Nat → Int64) → Option (Int32 × Int32 × (Nat → Int32) × (Nat → Int32) × (Nat → Int32) × Int32 × (Nat → Int64) × Int64 × (Nat → Int32) × (Nat → Int64) × (Nat → Int64))) (pn : Int32) (f s v : Nat → Int32) (W : Int32) (bi : Nat → Int64) (row : Nat → Int32) (paid : Nat → Int64) : ∃ (z pn' : Int32) (f' s' v' : Nat → Int32) (W' : Int32) (bi' : Nat → Int64) (row' : Nat → Int32) (paid' : Nat → Int64), L_X10_late_48 kind links cutCount ahead worths cuts dues kx FUEL (0, pn, f, s, v, W, bi, row, paid) = kx (z, pn', f', s', v', W', bi', row', paid') ∧ PdR (Pd kd n w r off dbl cs) 60 (2 ^ cs.length) paid' := by
  obtain ⟨g1, g2, g3, g4, g5, g6, g7⟩ := id hV
  obtain ⟨c1, c2, c3, c4, c5, c6⟩ := id hCC
  have hp5 : 2 ^ cs.length ≤ 32 := Nat.pow_le_pow_right (n := 2) (j := 5) (by decide) g5
  have esh : (1 : Int32) <<< (nI cs.length &&& 31) = nI (2 ^ cs.length) := shl31 (by omega)
  unfold L_X10_late_48
  rw [c1, c2, c3]
  obtain ⟨⟨pn', f', s', v', W', bi', row', paid'⟩, h1, q⟩ := upK (fun rec t => LB_X10_late_48 (nI kd) (nI n) (nI cs.length) ahead worths cuts dues kx rec t.1 t.2.1 t.2.2.1 t.2.2.2.1 t.2.2.2.2.1 t.2.2.2.2.2.1 t.2.2.2.2.2.2.1 t.2.2.2.2.2.2.2.1 t.2.2.2.2.2.2.2.2) kx (2 ^ cs.length) (fun p t => PdR (Pd kd n w r off dbl cs) 60 p t.2.2.2.2.2.2.2) (by omega) (fun p t hp hI rec => by
      obtain ⟨pn, f, s, v, W, bi, row, paid⟩ := t
      have hI : PdR (Pd kd n w r off dbl cs) 60 p paid := hI
      have hVs := ChV_sel hV p
      obtain ⟨row1, e1, hrow1⟩ := choosePart_ok (p := p) g5 (by omega) c6 row
      obtain ⟨-, f1, s1, v1, e2, pa⟩ := split_ok hVs c5 c4 hrow1 (z1 := 5) (Nat.le_trans (selN_len cs p _) g5) (by decide) f s v
      obtain ⟨W1, b1, e3, hb⟩ := loadS hVs pa bi
      obtain ⟨acc, e4, hacc⟩ := paidDays_ok (P := Pd kd n w r off dbl cs p) (W := nI W1) (g := b1) (dues := dues) (fun d h1 h2 => by
        have := due_le (r := r) (off := off) (dbl := dbl) hr d
        rw [hd d h2, hb _ (by omega)]
        rfl)
      refine ⟨(nI (pcs kd n w (selN cs p cs.length)).length, f1, s1, v1, nI W1, b1, row1, vp_updL paid p (lN acc)), fun k hk => ?_, ?_⟩
      · show ∃ a, vp_updL paid p (lN acc) k = lN a ∧ _
        by_cases c : k = p
        · rw [c]; exact ⟨acc, pk_uLs, hacc⟩
        · obtain ⟨a, a1, a2⟩ := hI k (by omega)
          exact ⟨a, by rw [pk_uLn c]; exact a1, a2⟩
      · show LB_X10_late_48 _ _ _ _ _ _ _ _ rec (nI p) pn f s v W bi row paid = _
        unfold LB_X10_late_48
        rw [esh, if_neg (nI_ge hp (by omega)), e1, Option.bind_some]
        dsimp only
        rw [e2, Option.bind_some]
        dsimp only
        rw [e3, Option.bind_some]
        dsimp only
        rw [e4, Option.bind_some, ob_t (inb_nI (by omega) (by decide)), nI_clamp (by omega), nI_1]) (fun t _ rec => by
      show LB_X10_late_48 _ _ _ _ _ _ _ _ rec (nI (2 ^ cs.length)) _ _ _ _ _ _ _ _ = _
      unfold LB_X10_late_48
      rw [esh, if_pos (nI_le (Nat.le_refl _) (by omega))]) (j := 0) (s := (pn, f, s, v, W, bi, row, paid)) (Nat.zero_le _) (fun p hp => absurd hp (by omega))
  exact ⟨_, pn', f', s', v', W', bi', row', paid', q, h1⟩
