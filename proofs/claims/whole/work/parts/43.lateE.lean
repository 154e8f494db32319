/-! late: the reference's parts that pay -/
theorem mask_app {l : List Nat} {c : Nat} (hs : (l ++ [c]).Pairwise (· < ·)) : mask l ||| 2 ^ c = mask (l ++ [c]) := by
  refine mask_ext (ds := []) hs (fun k => ?_)
  rw [Nat.testBit_or, mask_bit l (List.pairwise_append.mp hs).1, Nat.testBit_two_pow]
  by_cases h1 : k ∈ l
  · rw [decide_eq_true h1, decide_eq_true (List.mem_append.mpr (Or.inl h1))]; rfl
  · rw [decide_eq_false h1, Bool.false_or]
    by_cases h2 : c = k
    · rw [decide_eq_true h2, decide_eq_true (List.mem_append.mpr (Or.inr (List.mem_singleton.mpr h2.symm)))]
    · rw [decide_eq_false h2, decide_eq_false (fun z => by
        rcases List.mem_append.mp z with z | z
        · exact h1 z
        · exact h2 (List.mem_singleton.mp z).symm)]
theorem lateM_cut {cs : List Nat} {mw : Nat → Int32} {p : Nat} (hs : cs.Pairwise (· < ·)) (hb : ∀ c ∈ cs, c < 24) (h5 : cs.length ≤ 5) (hp : p < 2 ^ 31) (e26 : mw 26 = nI (mask cs)) (kx : Int32 × Int32 → Option (Int32 × Int32 × (Nat → Int32) × (Nat → Int32) × (Nat → Int32) × (Nat → Int32) × (Nat → Int64) × (Nat → Int64) × (Nat → Int32) × (Nat → Int32))) : L_X11_late_78 mw (nI cs.length) (nI p) kx FUEL (0, 0) = kx (nI (mask (selN cs p cs.length)), nI cs.length) := by
  unfold L_X11_late_78
  refine loopR _ (fun o => o = kx (nI (mask (selN cs p cs.length)), nI cs.length)) (fun m a => ∃ i, a = (nI (mask (selN cs p i)), nI i) ∧ i ≤ cs.length ∧ m = cs.length - i) ?_ FUEL cs.length _ ⟨0, rfl, Nat.zero_le _, rfl⟩ (fuel_lt (by omega))
  rintro m a ⟨i, rfl, hi, rfl⟩ rec
  by_cases e : i = cs.length
  · subst e
    left
    show LB_X11_late_78 _ _ _ _ rec _ (nI cs.length) = _
    unfold LB_X11_late_78
    rw [if_pos (nI_le (Nat.le_refl _) (by omega))]
  · right
    refine ⟨cs.length - (i + 1), _, by omega, ⟨i + 1, rfl, by omega, rfl⟩, ?_⟩
    have hsr := selN_srt p hs (i + 1) (by omega)
    have hc := hb _ (gD_mem (l := cs) (i := i) (by omega))
    show LB_X11_late_78 _ _ _ _ rec (nI (mask (selN cs p i))) (nI i) = _
    unfold LB_X11_late_78 B_X11_late_114
    rw [if_neg (nI_ge (by omega) (by omega)), has_ok hp (by omega), Option.bind_some, nI_1]
    by_cases b : p.testBit i = true
    · have es : selN cs p (i + 1) = selN cs p i ++ [cs.getD i 0] := if_pos b
      rw [es] at hsr
      rw [if_pos b, if_neg n10, ob_t (by decide), show mw (26 : Int32).toNatClampNeg = nI (mask cs) from e26, atOf_ok hs (fun c hc => by have := hb c hc; omega) (by omega) (by omega), Option.bind_some, shl31 (by omega), or_n, mask_app hsr, es]
    · have es : selN cs p (i + 1) = selN cs p i := if_neg b
      rw [if_neg b, if_pos rfl, es, show (0 : Int32) = nI 0 from rfl, or_n, Nat.or_zero]
theorem lateM_days {P : Nat → Bool} {n p : Nat} {g : Nat → Int64} {dues : Nat → Int32} (hn : n ≤ 60) (hp : p < 32) (h : ∀ d, 1 ≤ d → d ≤ 60 → f_X11_isPaid g (dues d) = some (if P d = true then 1 else 0)) (paid : Nat → Int64) (kx : Int32 × (Nat → Int64) → Option (Int32 × Int32 × (Nat → Int32) × (Nat → Int32) × (Nat → Int32) × (Nat → Int32) × (Nat → Int64) × (Nat → Int64) × (Nat → Int32) × (Nat → Int32))) : ∃ acc z paid', L_X11_late_144 dues g (nI n) (nI p) kx FUEL (1, vp_updL paid p 0) = kx (z, paid') ∧ paid' p = lN acc ∧ DB P n acc ∧ ∀ k, k ≠ p → paid' k = paid k := by
  unfold L_X11_late_144
  refine loopR _ (fun o => ∃ acc z paid', o = kx (z, paid') ∧ paid' p = lN acc ∧ DB P n acc ∧ ∀ k, k ≠ p → paid' k = paid k) (fun m a => ∃ d acc q, a = (nI (d + 1), q) ∧ d ≤ n ∧ m = n - d ∧ q p = lN acc ∧ DB P d acc ∧ ∀ k, k ≠ p → q k = paid k) ?_ FUEL n _ ⟨0, 0, _, rfl, by omega, rfl, pk_uLs, DB_0 P, fun k hk => pk_uLn hk⟩ (fuel_lt (by omega))
  rintro m a ⟨d, acc, q, rfl, hd, rfl, h1, h2, h3⟩ rec
  by_cases e : d = n
  · subst e
    refine Or.inl ⟨acc, nI (d + 1), q, ?_, h1, h2, h3⟩
    show LB_X11_late_144 _ _ _ _ _ rec (nI (d + 1)) q = _
    unfold LB_X11_late_144
    rw [if_pos (nI_lt (by omega) (by omega))]
  · right
    have hs := DB_step (show d < 60 by omega) h2
    have ip : inb (nI p) 32 = true := inb_nI (by omega) (by decide)
    have hcode : LB_X11_late_144 dues g (nI n) (nI p) kx rec (nI (d + 1)) q = if P (d + 1) = true then rec (nI (d + 1 + 1), vp_updL q p (lN (acc ||| 2 ^ (d + 1)))) else rec (nI (d + 1 + 1), vp_updL q p (lN acc)) := by
      unfold LB_X11_late_144 B_X11_late_180
      rw [if_neg (nI_nlt (by omega) (by omega)), ob_t ip, ob_t (inb_nI (by omega) (by decide)), nI_clamp (show d + 1 < 2 ^ 31 by omega), h _ (by omega) (by omega), Option.bind_some, nI_1, ob_t ip, ob_t ip, nI_clamp (show p < 2 ^ 31 by omega), h1, shl1L (by omega), orL, lN_or_0]
      by_cases c : P (d + 1) = true
      · rw [if_pos c, if_neg n10, if_pos c]
      · rw [if_neg c, if_pos rfl, if_neg c]
    by_cases c : P (d + 1) = true
    · rw [if_pos c] at hcode
      exact ⟨n - (d + 1), _, by omega, ⟨d + 1, _, _, rfl, by omega, rfl, pk_uLs, hs.1 c, fun k hk => by rw [pk_uLn hk]; exact h3 k hk⟩, hcode⟩
    · rw [if_neg c] at hcode
      exact ⟨n - (d + 1), _, by omega, ⟨d + 1, _, _, rfl, by omega, rfl, pk_uLs, hs.2 (by simpa using c), fun k hk => by rw [pk_uLn hk]; exact h3 k hk⟩, hcode⟩
theorem lateM_paid {kd n : Nat} {w : Nat → Nat} {cs : List Nat} {mw : Nat → Int32} (hV : ChV kd n w cs) (hM : ChM kd n w cs 0 mw) {r off dbl : Nat} (hr : r ≤ 9) {dues : Nat → Int32} (hd : ∀ d, d ≤ 60 → dues d = nI (dueF r off dbl d)) {q : Nat} (hq : q ≤ 60) (kx : Int32 × Int32 × (Nat → Int32) × (Nat → Int32) × (Nat → Int32) × (Nat → Int64) × (Nat → Int64) → Option (Int32 × Int32 × (Nat → Int32) × (Nat → Int32) × (Nat → Int32) × (Nat → Int32) × (Nat → Int64) × (Nat → Int64) × (Nat → Int32) × (Nat → Int32))) (pn : Int32) (f s v : Nat → Int32) (su paid : Nat → Int64) : ∃ (z pn' : Int32) (f' s' v' : Nat → Int32) (su' paid' : Nat → Int64), L_X11_late_64 dues mw (nI q) (nI cs.length) kx FUEL (0, pn, f, s, v, su, paid) = kx (z, pn', f', s', v', su', paid') ∧ PdR (Pd kd n w r off dbl cs) q (2 ^ cs.length) paid' := by
  obtain ⟨g1, g2, g3, g4, g5, g6, g7⟩ := id hV
  have hN := notchN_le (kd := kd) (n := n)
  have hp5 : 2 ^ cs.length ≤ 32 := Nat.pow_le_pow_right (n := 2) (j := 5) (by decide) g5
  have esh : (1 : Int32) <<< (nI cs.length &&& 31) = nI (2 ^ cs.length) := shl31 (by omega)
  unfold L_X11_late_64
  obtain ⟨⟨pn', f', s', v', su', paid'⟩, h1, qq⟩ := upK (fun rec t => LB_X11_late_64 dues mw (nI q) (nI cs.length) kx rec t.1 t.2.1 t.2.2.1 t.2.2.2.1 t.2.2.2.2.1 t.2.2.2.2.2.1 t.2.2.2.2.2.2) kx (2 ^ cs.length) (fun p t => PdR (Pd kd n w r off dbl cs) q p t.2.2.2.2.2) (by omega) (fun p t hp hI rec => by
      obtain ⟨pn, f, s, v, su, paid⟩ := t
      have hI : PdR (Pd kd n w r off dbl cs) q p paid := hI
      have hVs := ChV_sel hV p
      obtain ⟨f1, s1, v1, e2, pa⟩ := lay_ok hVs hM.1 hM.2.1 (M_ew hM) f s v
      obtain ⟨b1, e3, hb⟩ := loadM hVs pa su
      obtain ⟨acc, z, paid1, e4, k1, k2, k3⟩ := lateM_days (P := Pd kd n w r off dbl cs p) (n := q) (p := p) (g := b1) (dues := dues) hq (by omega) (fun d h1 h2 => by
        have := due_le (r := r) (off := off) (dbl := dbl) hr d
        rw [hd d h2, hb _ (by omega)]
        rfl) paid (fun t => B_X11_late_188 kx rec (nI (pcs kd n w (selN cs p cs.length)).length) f1 s1 v1 b1 t.2 (nI p))
      refine ⟨(nI (pcs kd n w (selN cs p cs.length)).length, f1, s1, v1, b1, paid1), fun k hk => ?_, ?_⟩
      · show ∃ a, paid1 k = lN a ∧ _
        by_cases c : k = p
        · rw [c]; exact ⟨acc, k1, k2⟩
        · obtain ⟨a, a1, a2⟩ := hI k (by omega)
          exact ⟨a, by rw [k3 k c]; exact a1, a2⟩
      · show LB_X11_late_64 _ _ _ _ _ rec (nI p) pn f s v su paid = _
        unfold LB_X11_late_64
        rw [esh, if_neg (nI_ge hp (by omega)), lateM_cut g6 (fun c hc => by have := g7 c hc; omega) g5 (by omega) hM.2.2.2]
        dsimp only
        unfold B_X11_late_123
        rw [e2, Option.bind_some]
        dsimp only
        rw [e3, Option.bind_some, ob_t (inb_nI (by omega) (by decide)), nI_clamp (by omega), e4]
        unfold B_X11_late_188
        rw [nI_1]) (fun t _ rec => by
      show LB_X11_late_64 _ _ _ _ _ rec (nI (2 ^ cs.length)) _ _ _ _ _ _ = _
      unfold LB_X11_late_64
      rw [esh, if_pos (nI_le (Nat.le_refl _) (by omega))]) (j := 0) (s := (pn, f, s, v, su, paid)) (Nat.zero_le _) (fun p hp => absurd hp (by omega))
  exact ⟨_, pn', f', s', v', su', paid', qq, h1⟩
