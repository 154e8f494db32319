/-! what is paid, pays, far -/
theorem lgc_eq {x y : Int64} : lg_cmp x y = 0 ↔ x = y := by
  unfold lg_cmp
  by_cases h1 : y < x
  · rw [if_pos h1]
    exact ⟨fun h => absurd h (by decide), fun h => absurd (h ▸ h1) (Int64.not_lt.mpr (Int64.le_refl _))⟩
  · rw [if_neg h1]
    by_cases h2 : x = y
    · rw [if_pos h2]; exact ⟨fun _ => h2, fun _ => rfl⟩
    · rw [if_neg h2]; exact ⟨fun h => absurd h (by decide), fun h => absurd h h2⟩
theorem tb_word (B s : Nat) : B.testBit s = decide (wd B (s / 64) / 2 ^ (s % 64) % 2 = 1) := by
  have h := wd_bit B (s / 64) (s % 64)
  rw [decide_eq_true (Nat.mod_lt s (by decide)), Bool.true_and, show 64 * (s / 64) + s % 64 = s by omega] at h
  rw [← h]
  exact Nat.testBit_eq_decide_div_mod_eq
theorem sh6 {s : Nat} (h : s < 2 ^ 31) : nI s >>> ((6 : Int32) &&& 31) = nI (s / 64) := by
  simp (disch := omega) only [lit, nI_add, pk_mul, nI_subT, nI_m1T, nI_clamp, nI_ltI, nI_leI, nI_eq, inb_T, ob_tt, Option.bind_some, ↓reduceIte, shl1_n, shr_n', and_n, or_n, xor_n, n31, dvd_n, pk_us, pk_un, gt_iff_lt, ge_iff_le, m1lt, m1ge]
theorem an63 (s : Nat) : nI s &&& (63 : Int32) = nI (s % 64) := by
  rw [show (63 : Int32) = nI (2 ^ 6 - 1) from rfl, and_n, Nat.and_two_pow_sub_one_eq_mod]
theorem sums_has {B W s : Nat} {f : Nat → Int64} (hW : W ≤ 4) (h : WB B W f) (hB : ∀ s, 64 * W ≤ s → B.testBit s = false) (hs : s < 2 ^ 31) : f_X8_has (nI W) f (nI s) = some (if B.testBit s = true then 1 else 0) := by
  unfold f_X8_has B_X8_has_40 B_X8_has_41
  rw [if_neg (nI_pos hs), sh6 hs, an63, ob_t zb0, ob_t zb1]
  by_cases hw : W ≤ s / 64
  · rw [if_pos (nI_le hw (by omega)), hB s (by omega)]; rfl
  · rw [if_neg (nI_ge (by omega) (by omega)), ob_t (inb_nI (by omega) (by decide)), nI_clamp (by omega), h _ (by omega), nI_l (by omega), ushrL (wd_lt _ _) (Nat.mod_lt s (by decide)), show (1 : Int64) = lN (2 ^ 1 - 1) from rfl, andL, Nat.and_two_pow_sub_one_eq_mod, show (0 : Int64) = lN 0 from rfl, tb_word B s]
    have h2 : wd B (s / 64) / 2 ^ (s % 64) % 2 ^ 1 < 2 := Nat.mod_lt _ (by decide)
    by_cases e : wd B (s / 64) / 2 ^ (s % 64) % 2 = 1
    · rw [if_neg (fun z => by
        have := (lN_inj (by omega) (by omega)).mp (lgc_eq.mp z)
        rw [show (2 : Nat) ^ 1 = 2 from rfl] at this
        omega), if_pos (decide_eq_true e)]
    · rw [if_pos (by
        rw [lgc_eq, show wd B (s / 64) / 2 ^ (s % 64) % 2 ^ 1 = 0 by rw [show (2 : Nat) ^ 1 = 2 from rfl] at h2 ⊢; omega]), if_neg (by rw [decide_eq_false e]; exact Bool.false_ne_true)]
theorem isPaid_ok {B s : Nat} {f : Nat → Int64} (h : WB B 4 f) (hB : ∀ s, 256 ≤ s → B.testBit s = false) (hs : s < 2 ^ 31) : f_X11_isPaid f (nI s) = some (if B.testBit s = true then 1 else 0) := by
  unfold f_X11_isPaid B_X11_isPaid_32 B_X11_isPaid_33
  rw [ob_t zb0, ob_t zb1]
  by_cases hw : 256 ≤ s
  · rw [if_pos (show (256 : Int32) ≤ nI s from nI_le hw hs), hB s hw]; rfl
  · rw [if_neg (show ¬ (256 : Int32) ≤ nI s from nI_ge (b := 256) (by omega) (by decide)), show nI s / (64 : Int32) = nI (s / 64) from pk_div (d := 64) (by omega) (by decide) (by decide), show nI s - nI (s / 64) * (64 : Int32) = nI (s % 64) by
      rw [show nI (s / 64) * (64 : Int32) = nI (s / 64 * 64) from pk_mul _ 64, pk_sub (by omega)]
      congr 1; omega]
    have hm : s % 64 < 64 := Nat.mod_lt s (by decide)
    rw [ob_t (inb_nI (by omega) (by decide)), nI_clamp (by omega), h _ (by omega), sixty _ hm, show (1 : Int64) = lN (2 ^ 1 - 1) from rfl, sarL 1 (wd_lt _ _) (by omega) (by decide), tb_word B s]
    have h2 : wd B (s / 64) / 2 ^ (s % 64) % 2 ^ 1 < 2 := Nat.mod_lt _ (by decide)
    by_cases e : wd B (s / 64) / 2 ^ (s % 64) % 2 = 1
    · rw [if_pos (by rw [lgc_eq, show wd B (s / 64) / 2 ^ (s % 64) % 2 ^ 1 = 2 ^ 1 - 1 from e]), if_pos (decide_eq_true e)]
    · rw [if_neg (fun z => e ((lN_inj (by omega) (by decide)).mp (lgc_eq.mp z))), if_neg (by rw [decide_eq_false e]; exact Bool.false_ne_true)]
theorem SBn_le (g : Nat → Nat) : ∀ k s, (SBn 1 g k).testBit s = true → s ≤ pre g k
  | 0, s, h => by
    have : s = 0 := by
      have h' : (1 : Nat).testBit s = true := h
      rw [show (1 : Nat) = 2 ^ 0 from rfl, Nat.testBit_two_pow] at h'
      exact (of_decide_eq_true h').symm
    omega
  | k + 1, s, h => by
    have h' : (SBn 1 g k ||| SBn 1 g k <<< g k).testBit s = true := h
    rw [Nat.testBit_or, Nat.testBit_shiftLeft, Bool.or_eq_true, Bool.and_eq_true] at h'
    show s ≤ pre g k + g k
    rcases h' with h' | ⟨h1, h2⟩
    · have := SBn_le g k s h'; omega
    · have := SBn_le g k _ h2
      have := of_decide_eq_true h1
      omega
theorem SBn_shift (g : Nat → Nat) : ∀ k b, SBn b g (k + 1) = SBn (b ||| b <<< g 0) (fun i => g (i + 1)) k
  | 0, _ => rfl
  | k + 1, b => by
    show SBn b g (k + 1) ||| SBn b g (k + 1) <<< g (k + 1) = _
    rw [SBn_shift g k b]
    rfl
theorem SB_eq : ∀ (P : List (Nat × Nat × Nat)) (b : Nat), (P.map (fun q => q.2.2)).foldl (fun b v => b ||| (b <<< v)) b = SBn b (pv P) P.length
  | [], _ => rfl
  | q :: t, b => by
    rw [List.map_cons, List.foldl_cons, SB_eq t, List.length_cons, SBn_shift]
    rfl
theorem SB_vals (kd n : Nat) (w : Nat → Nat) (cs : List Nat) : SB (vals kd n w cs) = SBn 1 (pv (pcs kd n w cs)) (pcs kd n w cs).length := SB_eq _ 1
def vsum : List (Nat × Nat × Nat) → Nat
  | [] => 0
  | q :: t => q.2.2 + vsum t
theorem vsum_app : ∀ a b, vsum (a ++ b) = vsum a + vsum b
  | [], b => by show vsum b = 0 + vsum b; omega
  | q :: t, b => by
    show q.2.2 + vsum (t ++ b) = q.2.2 + vsum t + vsum b
    rw [vsum_app t b]; omega
theorem vsum_rev : ∀ a, vsum a.reverse = vsum a
  | [] => rfl
  | q :: t => by
    rw [List.reverse_cons, vsum_app, vsum_rev t]
    show vsum t + (q.2.2 + 0) = q.2.2 + vsum t
    omega
theorem pre_shift (g : Nat → Nat) : ∀ k, pre g (k + 1) = g 0 + pre (fun i => g (i + 1)) k
  | 0 => by show 0 + g 0 = g 0 + 0; omega
  | k + 1 => by
    show pre g (k + 1) + g (k + 1) = g 0 + (pre (fun i => g (i + 1)) k + g (k + 1))
    rw [pre_shift g k]; omega
theorem pre_pv : ∀ P, pre (pv P) P.length = vsum P
  | [] => rfl
  | q :: t => by
    rw [List.length_cons, pre_shift]
    show q.2.2 + pre (pv t) t.length = q.2.2 + vsum t
    rw [pre_pv t]
theorem lossN_le {kd : Nat} {cs : List Nat} {w : Nat → Nat} {k : Nat} : lossN kd cs w k ≤ w k := by
  unfold lossN; split <;> omega
theorem rawR_sum {kd : Nat} {cs : List Nat} {w : Nat → Nat} : ∀ k, vsum (rawR kd cs w k) ≤ pre w k
  | 0 => Nat.le_refl _
  | k + 1 => by
    have ih := rawR_sum (kd := kd) (cs := cs) (w := w) k
    have hl := lossN_le (kd := kd) (cs := cs) (w := w) (k := k)
    rw [rawR_succ]
    show _ ≤ pre w k + w k
    split
    · show lossN kd cs w k + vsum (rawR kd cs w k) ≤ _
      omega
    · split
      · show 0 ≤ _; omega
      · rename_i q t e
        rw [e] at ih
        have ih' : q.2.2 + vsum t ≤ pre w k := ih
        show q.2.2 + lossN kd cs w k + vsum t ≤ _
        omega
theorem joinE_sum (P : List (Nat × Nat × Nat)) : vsum (joinE P) = vsum P := by
  cases P with
  | nil => rfl
  | cons p t =>
    rcases e : t.reverse with _ | ⟨q, u⟩
    · have : t = [] := List.reverse_eq_nil_iff.mp e
      rw [this]; rfl
    · have et : t = u.reverse ++ [q] := by
        have := congrArg List.reverse e
        rw [List.reverse_reverse, List.reverse_cons] at this
        exact this
      have ej : joinE (p :: t) = u.reverse ++ [(q.1, q.2.1 + p.2.1, q.2.2 + p.2.2)] := by
        show (match t.reverse with
          | [] => [p]
          | q :: u => u.reverse ++ [(q.1, q.2.1 + p.2.1, q.2.2 + p.2.2)]) = _
        rw [e]
      rw [ej, et, vsum_app]
      show vsum u.reverse + (q.2.2 + p.2.2 + 0) = p.2.2 + vsum (u.reverse ++ [q])
      rw [vsum_app]
      show _ = p.2.2 + (vsum u.reverse + (q.2.2 + 0))
      omega
theorem pcs_sum (kd n : Nat) (w : Nat → Nat) (cs : List Nat) : pre (pv (pcs kd n w cs)) (pcs kd n w cs).length ≤ pre w n := by
  rw [pre_pv]
  unfold pcs
  split
  · rw [joinE_sum, vsum_rev]; exact rawR_sum n
  · rw [vsum_rev]; exact rawR_sum n
theorem pre_one (g : Nat → Nat) : ∀ k i, i < k → g i ≤ pre g k
  | 0, i, h => absurd h (by omega)
  | k + 1, i, h => by
    show g i ≤ pre g k + g k
    by_cases e : i = k
    · rw [e]; omega
    · have := pre_one g k i (by omega); omega
/-- all that is asked of pieces where sums are asked -/
def PaV (kd n : Nat) (w : Nat → Nat) (cs : List Nat) : Prop := (pcs kd n w cs).length ≤ 11 ∧ pre (pv (pcs kd n w cs)) (pcs kd n w cs).length ≤ 216 ∧ ∀ i, i < (pcs kd n w cs).length → pv (pcs kd n w cs) i ≤ 216
theorem PaV_of {kd n : Nat} {w : Nat → Nat} {cs : List Nat} (hV : ChV kd n w cs) : PaV kd n w cs := by
  have h1 := (split_ok hV (ahead := fun i => nI (pre w i)) (worths := fun i => nI (w i)) (row := fun i => nI (cs.getD i 0)) (fun _ _ => rfl) (fun _ _ => rfl) (fun _ _ => rfl) (z1 := 5) hV.2.2.2.2.1 (by decide) (fun _ => 0) (fun _ => 0) (fun _ => 0)).1
  have h2 := pcs_sum kd n w cs
  have h3 := pre_le n (fun i hi => (hV.2.2.2.1 i hi).2)
  have h4 := hV.2.2.1
  refine ⟨h1, by omega, fun i hi => ?_⟩
  have := pre_one (pv (pcs kd n w cs)) _ i hi
  omega
theorem loadS {kd n : Nat} {w : Nat → Nat} {cs : List Nat} (hV : ChV kd n w cs) {f s v : Nat → Int32} (hP : PA (pcs kd n w cs) f s v) (bits : Nat → Int64) : ∃ (W : Nat) (g : Nat → Int64), f_X8_load bits (nI (pcs kd n w cs).length) v = some (nI W, g) ∧ ∀ s, s < 2 ^ 31 → f_X8_has (nI W) g (nI s) = some (if (SB (vals kd n w cs)).testBit s = true then 1 else 0) := by
  obtain ⟨h1, h2, h3⟩ := PaV_of hV
  obtain ⟨g, eg, hg⟩ := load_ok h1 h2 h3 hP bits
  refine ⟨_, g, eg, fun s hs => ?_⟩
  rw [SB_vals]
  refine sums_has (by omega) hg (fun t ht => ?_) hs
  rw [Bool.eq_false_iff]
  intro z
  have := SBn_le _ _ _ z
  omega
theorem loadM {kd n : Nat} {w : Nat → Nat} {cs : List Nat} (hV : ChV kd n w cs) {f s v : Nat → Int32} (hP : PA (pcs kd n w cs) f s v) (bits : Nat → Int64) : ∃ (g : Nat → Int64), f_X11_laySums (nI (pcs kd n w cs).length) bits v = some g ∧ ∀ s, s < 2 ^ 31 → f_X11_isPaid g (nI s) = some (if (SB (vals kd n w cs)).testBit s = true then 1 else 0) := by
  obtain ⟨h1, h2, h3⟩ := PaV_of hV
  obtain ⟨g, eg, hg⟩ := laySums_ok h1 h3 hP bits
  refine ⟨g, eg, fun s hs => ?_⟩
  rw [SB_vals]
  refine isPaid_ok hg (fun t ht => ?_) hs
  rw [Bool.eq_false_iff]
  intro z
  have := SBn_le _ _ _ z
  omega
theorem due_le {r off dbl : Nat} (hr : r ≤ 9) : ∀ d, dueF r off dbl d ≤ 18 * d
  | 0 => Nat.le_refl _
  | d + 1 => by
    have := due_le (off := off) (dbl := dbl) hr d
    show dueF r off dbl d + (if off.testBit (d % 7) = true then 0 else if dbl.testBit (d % 7) = true then 2 * r else r) ≤ _
    split
    · omega
    · split <;> omega
theorem runD_step {p : Nat → Bool} {d : Nat} (hd : d < 60) (h : p (d + 1) = true) : runD p (60 - d) d = runD p (60 - (d + 1)) (d + 1) := by
  obtain ⟨e, he⟩ : ∃ e, 60 - d = e + 1 := ⟨60 - d - 1, by omega⟩
  rw [he, show 60 - (d + 1) = e by omega]
  show (if p (d + 1) = true then _ else _) = _
  rw [if_pos h]
theorem runD_stop {p : Nat → Bool} {d : Nat} (h : d < 60 → p (d + 1) = false) : runD p (60 - d) d = d := by
  by_cases hd : d < 60
  · obtain ⟨e, he⟩ : ∃ e, 60 - d = e + 1 := ⟨60 - d - 1, by omega⟩
    rw [he]
    show (if p (d + 1) = true then _ else _) = _
    rw [if_neg (by rw [h hd]; exact Bool.false_ne_true)]
  · rw [show 60 - d = 0 by omega]; rfl
theorem runD_le (p : Nat → Bool) : ∀ f d, runD p f d ≤ d + f
  | 0, d => Nat.le_refl _
  | f + 1, d => by
    show (if p (d + 1) = true then runD p f (d + 1) else d) ≤ _
    have := runD_le p f (d + 1)
    split <;> omega
theorem daysInRow_ok {p : Nat → Bool} {W : Int32} {g : Nat → Int64} {dues : Nat → Int32} (h : ∀ d, 1 ≤ d → d ≤ 60 → f_X8_has W g (dues d) = some (if p d = true then 1 else 0)) : f_X8_daysInRow 61 W g dues = some (nI (runD p 60 0)) := by
  unfold f_X8_daysInRow L_X8_daysInRow_2
  refine upQ0 _ (fun o => o = some (nI (runD p 60 0))) 60 (fun d => runD p (60 - d) d = runD p 60 0) (by decide) ?_ ?_ (j := 0) (by omega) rfl
  · intro d hd hI
    by_cases hp : p (d + 1) = true
    · refine Or.inr ⟨by rw [← runD_step hd hp]; exact hI, fun rec => ?_⟩
      show LB_X8_daysInRow_2 _ _ _ _ _ rec (nI d) = _
      unfold LB_X8_daysInRow_2
      rw [if_neg (show ¬ (60 : Int32) ≤ nI d from nI_ge (b := 60) hd (by decide)), nI_1, ob_t (inb_nI (by omega) (by decide)), nI_clamp (by omega), h (d + 1) (by omega) (by omega), if_pos hp, Option.bind_some, if_neg n10]
    · refine Or.inl (fun rec => ?_)
      show LB_X8_daysInRow_2 _ _ _ _ _ rec (nI d) = _
      unfold LB_X8_daysInRow_2
      rw [if_neg (show ¬ (60 : Int32) ≤ nI d from nI_ge (b := 60) hd (by decide)), nI_1, ob_t (inb_nI (by omega) (by decide)), nI_clamp (by omega), h (d + 1) (by omega) (by omega), if_neg hp, Option.bind_some, if_pos rfl, ← hI, runD_stop (fun _ => by simpa using hp)]
      rfl
  · intro hI rec
    show LB_X8_daysInRow_2 _ _ _ _ _ rec (nI 60) = _
    unfold LB_X8_daysInRow_2
    rw [if_pos (by decide), ← hI]
    rfl
theorem farLoop_ok {p : Nat → Bool} {g : Nat → Int64} {dues : Nat → Int32} (h : ∀ d, 1 ≤ d → d ≤ 60 → f_X11_isPaid g (dues d) = some (if p d = true then 1 else 0)) (kx : Int32 → Option (Int32 × Int32 × (Nat → Int32) × (Nat → Int32) × (Nat → Int32) × (Nat → Int64))) : L_X11_farBy_11 g dues kx FUEL 0 = kx (nI (runD p 60 0)) := by
  unfold L_X11_farBy_11
  refine upQ0 _ (fun o => o = kx (nI (runD p 60 0))) 60 (fun d => runD p (60 - d) d = runD p 60 0) (by decide) ?_ ?_ (j := 0) (by omega) rfl
  · intro d hd hI
    by_cases hp : p (d + 1) = true
    · refine Or.inr ⟨by rw [← runD_step hd hp]; exact hI, fun rec => ?_⟩
      show LB_X11_farBy_11 _ _ _ rec (nI d) = _
      unfold LB_X11_farBy_11
      rw [if_neg (show ¬ (60 : Int32) ≤ nI d from nI_ge (b := 60) hd (by decide)), nI_1, ob_t (inb_nI (by omega) (by decide)), nI_clamp (by omega), h (d + 1) (by omega) (by omega), if_pos hp, Option.bind_some, if_neg n10]
    · refine Or.inl (fun rec => ?_)
      show LB_X11_farBy_11 _ _ _ rec (nI d) = _
      unfold LB_X11_farBy_11
      rw [if_neg (show ¬ (60 : Int32) ≤ nI d from nI_ge (b := 60) hd (by decide)), nI_1, ob_t (inb_nI (by omega) (by decide)), nI_clamp (by omega), h (d + 1) (by omega) (by omega), if_neg hp, Option.bind_some, if_pos rfl, ← hI, runD_stop (fun _ => by simpa using hp)]
  · intro hI rec
    show LB_X11_farBy_11 _ _ _ rec (nI 60) = _
    unfold LB_X11_farBy_11
    rw [if_pos (by decide), ← hI]
    rfl
/-- FAR of the class's pieces by some cuts -/
theorem farC {kd n : Nat} {w : Nat → Nat} {cs : List Nat} (hV : ChV kd n w cs) {r off dbl : Nat} (hr : r ≤ 9) {dues : Nat → Int32} (hd : ∀ d, d ≤ 60 → dues d = nI (dueF r off dbl d)) {f s v : Nat → Int32} (hP : PA (pcs kd n w cs) f s v) (bits : Nat → Int64) : ∃ (W : Nat) (g : Nat → Int64), f_X8_load bits (nI (pcs kd n w cs).length) v = some (nI W, g) ∧ f_X8_daysInRow 61 (nI W) g dues = some (nI (farF kd n w r off dbl cs)) ∧ ∀ s, s < 2 ^ 31 → f_X8_has (nI W) g (nI s) = some (if (SB (vals kd n w cs)).testBit s = true then 1 else 0) := by
  obtain ⟨W, g, eg, hg⟩ := loadS hV hP bits
  refine ⟨W, g, eg, daysInRow_ok (fun d h1 h2 => ?_), hg⟩
  have := due_le (r := r) (off := off) (dbl := dbl) hr d
  rw [hd d h2, hg _ (by omega)]
/-- FAR of the reference -/
theorem farM {kd n : Nat} {w : Nat → Nat} {cs : List Nat} (hV : ChV kd n w cs) {r off dbl : Nat} (hr : r ≤ 9) {mw : Nat → Int32} (e0 : mw 0 = nI kd) (e1 : mw 1 = nI n) (ew : ∀ i, i < n → mw (2 + i) = nI (w i)) {dues : Nat → Int32} (hd : ∀ d, d ≤ 60 → dues d = nI (dueF r off dbl d)) (f s v : Nat → Int32) (bits : Nat → Int64) : ∃ (f' s' v' : Nat → Int32) (g : Nat → Int64), f_X11_farBy mw f s v bits dues (nI (mask cs)) = some (nI (farF kd n w r off dbl cs), nI (pcs kd n w cs).length, f', s', v', g) ∧ PA (pcs kd n w cs) f' s' v' := by
  obtain ⟨f', s', v', e, hP⟩ := lay_ok hV e0 e1 ew f s v
  obtain ⟨g, eg, hg⟩ := loadM hV hP bits
  refine ⟨f', s', v', g, ?_, hP⟩
  unfold f_X11_farBy
  rw [e, Option.bind_some]
  dsimp only
  rw [eg, Option.bind_some]
  refine (farLoop_ok (p := fun d => (SB (vals kd n w cs)).testBit (dueF r off dbl d)) (fun d h1 h2 => ?_) _).trans rfl
  have := due_le (r := r) (off := off) (dbl := dbl) hr d
  rw [hd d h2, hg _ (by omega)]
theorem tq_pays {x_hasImage : Int32} {x_chain_kind : Int32} {x_chain_links : Int32} {x_chain_cutCount : Int32} {x_best_known : Nat → Int32} {x_chain_worths : Nat → Int32} {x_chain_ahead : Nat → Int32} {x_chain_cuts : Nat → Int32} {x_tape_length : Int32} {x_tape_bytes : Nat → Int32} {x_draft_ahead : Nat → Int32} {x_pieces_count : Int32} {x_pieces_first : Nat → Int32} {x_pieces_size : Nat → Int32} {x_pieces_value : Nat → Int32} {x_days_each : Int32} {x_days_off : Int32} {x_days_twice : Int32} {x_days_dues : Nat → Int32} {x_sums_words : Int32} {x_sums_bits : Nat → Int64} {x_sets_whole : Int32} {x_sets_pieceCount : Int32} {x_sets_lookedBack : Int32} {x_sets_worths : Nat → Int32} {x_sets_ends : Nat → Int32} {x_sets_order : Nat → Int32} {x_sets_notes : Nat → Int32} {x_best_far : Nat → Int32} {x_best_rows : Nat → Nat → Int32} {x_sets_lookedAt : Nat → Int32} {x_imageChain_kind : Int32} {x_imageChain_links : Int32} {x_imageChain_cutCount : Int32} {x_imageChain_worths : Nat → Int32} {x_imageChain_ahead : Nat → Int32} {x_imageChain_cuts : Nat → Int32} {x_imageDays_each : Int32} {x_imageDays_off : Int32} {x_imageDays_twice : Int32} {x_imageDays_dues : Nat → Int32} {x_sheets_there : Nat → Int32} {x_sheets_lane : Nat → Int32} {x_sheets_length : Nat → Int32} {x_sheets_items : Nat → Nat → Int64} {y_isKept : Int32} {y_taped : Int32} {y_pieces : Int32} {y_w : Nat → Int32} {y_firsts : Nat → Int32} {y_sizes : Nat → Int32} {y_worths : Nat → Int32} {y_tape : Nat → Int32} {y_sums : Nat → Int64} {y_lanes : Nat → Int32} {y_longs : Nat → Int32} {y_items : Nat → Int64} (hR : Rel x_chain_kind x_chain_links x_chain_cutCount x_chain_worths x_chain_ahead x_chain_cuts x_days_each x_days_off x_days_twice x_days_dues x_best_known x_best_far x_best_rows x_hasImage x_imageChain_kind x_imageChain_links x_imageChain_cutCount x_imageChain_worths x_imageChain_ahead x_imageChain_cuts x_imageDays_each x_imageDays_off x_imageDays_twice x_imageDays_dues x_tape_length x_tape_bytes x_sheets_there x_sheets_lane x_sheets_length x_sheets_items x_draft_ahead x_sets_whole x_sets_pieceCount x_sets_lookedBack x_sets_worths x_sets_lookedAt x_sets_ends x_sets_order x_sets_notes y_w y_isKept y_taped y_tape y_lanes y_longs y_items) (p0 : Int32) : ∃ (rx : Int32 × Int32 × (Nat → Int32) × (Nat → Int32) × (Nat → Int32) × Int32 × (Nat → Int64)) (ry : Int32 × Int32 × (Nat → Int32) × (Nat → Int32) × (Nat → Int32) × (Nat → Int64)), f_X10_pays x_chain_kind x_chain_links x_chain_cutCount x_pieces_count x_pieces_first x_pieces_size x_pieces_value x_chain_ahead x_chain_worths x_chain_cuts x_sums_words x_sums_bits p0 = some rx ∧ f_X11_pays y_pieces y_w y_firsts y_sizes y_worths y_sums p0 = some ry ∧ rx.1 = ry.1 ∧ Rel x_chain_kind x_chain_links x_chain_cutCount x_chain_worths x_chain_ahead x_chain_cuts x_days_each x_days_off x_days_twice x_days_dues x_best_known x_best_far x_best_rows x_hasImage x_imageChain_kind x_imageChain_links x_imageChain_cutCount x_imageChain_worths x_imageChain_ahead x_imageChain_cuts x_imageDays_each x_imageDays_off x_imageDays_twice x_imageDays_dues x_tape_length x_tape_bytes x_sheets_there x_sheets_lane x_sheets_length x_sheets_items x_draft_ahead x_sets_whole x_sets_pieceCount x_sets_lookedBack x_sets_worths x_sets_lookedAt x_sets_ends x_sets_order x_sets_notes y_w y_isKept y_taped y_tape y_lanes y_longs y_items := by
  obtain ⟨kd, n, w, cs, r, off, dbl, hV, hCC, hM, hDV, hDC, hD, hB⟩ := id hR.1
  obtain ⟨hl, f1, s1, v1, e1, pa1⟩ := div_ok hV hCC x_pieces_first x_pieces_size x_pieces_value
  obtain ⟨f2, s2, v2, e2, pa2⟩ := layN_ok hV hM y_firsts y_sizes y_worths
  obtain ⟨W, g, eg, hg⟩ := loadS hV pa1 x_sums_bits
  obtain ⟨g2, eg2, hg2⟩ := loadM hV pa2 y_sums
  unfold f_X10_pays f_X11_pays B_X10_pays_44 B_X11_pays_35
  rw [within_ok, in_lit p0 0 999 (by decide) (by decide), e1, e2]
  simp only [Option.bind_some]
  rw [eg, eg2]
  simp only [Option.bind_some]
  by_cases h : (0 : Int32) ≤ p0 ∧ p0 ≤ 999
  · rw [if_pos h, if_neg n10, if_neg n10]
    obtain ⟨s, hs, rfl⟩ := nat_of (N := 999) (M := 999) (by decide) h
    rw [hg s (by omega), hg2 s (by omega)]
    simp only [Option.bind_some]
    by_cases b : (SB (vals kd n w cs)).testBit s = true
    · rw [if_pos b, if_neg n10, if_neg n10]; exact ⟨_, _, rfl, rfl, rfl, hR⟩
    · rw [if_neg b, if_pos rfl, if_pos rfl]; exact ⟨_, _, rfl, rfl, rfl, hR⟩
  · rw [if_neg h, if_pos rfl, if_pos rfl]; exact ⟨_, _, rfl, rfl, rfl, hR⟩
theorem daysPaid_ok {kd n : Nat} {w : Nat → Nat} {cs : List Nat} {kind links cutCount : Int32} {worths ahead cuts : Nat → Int32} (hV : ChV kd n w cs) (hCC : ChC kd n w cs kind links cutCount worths ahead cuts) {r off dbl : Nat} (hr : r ≤ 9) {dues : Nat → Int32} (hd : ∀ d, d ≤ 60 → dues d = nI (dueF r off dbl d)) (f s v : Nat → Int32) (bits : Nat → Int64) : ∃ (f' s' v' : Nat → Int32) (W : Nat) (g : Nat → Int64), f_X10_daysPaid kind links cutCount f s v ahead worths cuts bits dues = some (nI (farF kd n w r off dbl cs), nI (pcs kd n w cs).length, f', s', v', nI W, g) ∧ PA (pcs kd n w cs) f' s' v' := by
  obtain ⟨hl, f', s', v', e1, pa1⟩ := div_ok hV hCC f s v
  obtain ⟨W, g, eg, hg, -⟩ := farC hV hr hd pa1 bits
  refine ⟨f', s', v', W, g, ?_, pa1⟩
  unfold f_X10_daysPaid
  rw [e1, Option.bind_some]
  dsimp only
  rw [eg, Option.bind_some]
  dsimp only
  rw [hg]
  rfl
theorem M_ew {kd n : Nat} {w : Nat → Nat} {cs : List Nat} {mw : Nat → Int32} (hM : ChM kd n w cs 0 mw) : ∀ i, i < n → mw (2 + i) = nI (w i) := fun i hi => by
  have := hM.2.2.1 i hi
  rw [Nat.zero_add] at this
  exact this
theorem tq_far {x_hasImage : Int32} {x_chain_kind : Int32} {x_chain_links : Int32} {x_chain_cutCount : Int32} {x_best_known : Nat → Int32} {x_chain_worths : Nat → Int32} {x_chain_ahead : Nat → Int32} {x_chain_cuts : Nat → Int32} {x_tape_length : Int32} {x_tape_bytes : Nat → Int32} {x_draft_ahead : Nat → Int32} {x_pieces_first : Nat → Int32} {x_pieces_size : Nat → Int32} {x_pieces_value : Nat → Int32} {x_days_each : Int32} {x_days_off : Int32} {x_days_twice : Int32} {x_days_dues : Nat → Int32} {x_sums_bits : Nat → Int64} {x_sets_whole : Int32} {x_sets_pieceCount : Int32} {x_sets_lookedBack : Int32} {x_sets_worths : Nat → Int32} {x_sets_ends : Nat → Int32} {x_sets_order : Nat → Int32} {x_sets_notes : Nat → Int32} {x_best_far : Nat → Int32} {x_best_rows : Nat → Nat → Int32} {x_sets_lookedAt : Nat → Int32} {x_imageChain_kind : Int32} {x_imageChain_links : Int32} {x_imageChain_cutCount : Int32} {x_imageChain_worths : Nat → Int32} {x_imageChain_ahead : Nat → Int32} {x_imageChain_cuts : Nat → Int32} {x_imageDays_each : Int32} {x_imageDays_off : Int32} {x_imageDays_twice : Int32} {x_imageDays_dues : Nat → Int32} {x_sheets_there : Nat → Int32} {x_sheets_lane : Nat → Int32} {x_sheets_length : Nat → Int32} {x_sheets_items : Nat → Nat → Int64} {y_isKept : Int32} {y_taped : Int32} {y_w : Nat → Int32} {y_firsts : Nat → Int32} {y_sizes : Nat → Int32} {y_worths : Nat → Int32} {y_tape : Nat → Int32} {y_dues : Nat → Int32} {y_sums : Nat → Int64} {y_lanes : Nat → Int32} {y_longs : Nat → Int32} {y_items : Nat → Int64} (hR : Rel x_chain_kind x_chain_links x_chain_cutCount x_chain_worths x_chain_ahead x_chain_cuts x_days_each x_days_off x_days_twice x_days_dues x_best_known x_best_far x_best_rows x_hasImage x_imageChain_kind x_imageChain_links x_imageChain_cutCount x_imageChain_worths x_imageChain_ahead x_imageChain_cuts x_imageDays_each x_imageDays_off x_imageDays_twice x_imageDays_dues x_tape_length x_tape_bytes x_sheets_there x_sheets_lane x_sheets_length x_sheets_items x_draft_ahead x_sets_whole x_sets_pieceCount x_sets_lookedBack x_sets_worths x_sets_lookedAt x_sets_ends x_sets_order x_sets_notes y_w y_isKept y_taped y_tape y_lanes y_longs y_items) : ∃ (rx : Int32 × Int32 × (Nat → Int32) × (Nat → Int32) × (Nat → Int32) × Int32 × (Nat → Int64)) (ry : Int32 × Int32 × (Nat → Int32) × (Nat → Int32) × (Nat → Int32) × (Nat → Int32) × (Nat → Int64)), f_X10_far x_chain_kind x_chain_links x_chain_cutCount x_pieces_first x_pieces_size x_pieces_value x_chain_ahead x_chain_worths x_chain_cuts x_sums_bits x_days_dues = some rx ∧ f_X11_far y_dues y_w y_firsts y_sizes y_worths y_sums = some ry ∧ rx.1 = ry.1 ∧ Rel x_chain_kind x_chain_links x_chain_cutCount x_chain_worths x_chain_ahead x_chain_cuts x_days_each x_days_off x_days_twice x_days_dues x_best_known x_best_far x_best_rows x_hasImage x_imageChain_kind x_imageChain_links x_imageChain_cutCount x_imageChain_worths x_imageChain_ahead x_imageChain_cuts x_imageDays_each x_imageDays_off x_imageDays_twice x_imageDays_dues x_tape_length x_tape_bytes x_sheets_there x_sheets_lane x_sheets_length x_sheets_items x_draft_ahead x_sets_whole x_sets_pieceCount x_sets_lookedBack x_sets_worths x_sets_lookedAt x_sets_ends x_sets_order x_sets_notes y_w y_isKept y_taped y_tape y_lanes y_longs y_items := by
  obtain ⟨kd, n, w, cs, r, off, dbl, hV, hCC, hM, hDV, hDC, hD, hB⟩ := id hR.1
  obtain ⟨f1, s1, v1, W, g, e1, pa1⟩ := daysPaid_ok hV hCC hDV.2.1 hDC.2.2.2 x_pieces_first x_pieces_size x_pieces_value x_sums_bits
  obtain ⟨rd, er, hrd⟩ := layDues_ok hDV hD y_dues
  obtain ⟨f2, s2, v2, g2, e2, pa2⟩ := farM hV hDV.2.1 hM.1 hM.2.1 (M_ew hM) hrd y_firsts y_sizes y_worths y_sums
  unfold f_X10_far f_X11_far
  rw [e1, er, Option.bind_some, Option.bind_some, ob_t (by decide), show y_w (26 : Int32).toNatClampNeg = nI (mask cs) from hM.2.2.2, e2]
  exact ⟨_, _, rfl, rfl, rfl, hR⟩
