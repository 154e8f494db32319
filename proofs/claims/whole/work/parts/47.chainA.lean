/-! chain: the tape -/
/-- two loops in step -/
theorem loopR2 {α β α' β' : Type} (body : (α → Option β) → α → Option β) (body' : (α' → Option β') → α' → Option β') (Q : Option β → Option β' → Prop) (I : Nat → α → α' → Prop) (step : ∀ m a a', I m a a' → ∀ rec rec', Q (body rec a) (body' rec' a') ∨ ∃ m' b b', m' < m ∧ I m' b b' ∧ body rec a = rec b ∧ body' rec' a' = rec' b') : ∀ (f f' m : Nat) (a : α) (a' : α'), I m a a' → m < f → m < f' → Q (fixN body f a) (fixN body' f' a') := by
  intro f
  induction f with
  | zero => intro f' m a a' _ h; exact absurd h (Nat.not_lt_zero _)
  | succ n ih =>
    intro f' m a a' hI hm hm'
    obtain ⟨n', rfl⟩ : ∃ n', f' = n' + 1 := ⟨f' - 1, by omega⟩
    rcases step m a a' hI (fixN body n) (fixN body' n') with h | ⟨m', b, b', h1, h2, h3, h4⟩
    · exact h
    · show Q (body (fixN body n) a) (body' (fixN body' n') a')
      rw [h3, h4]
      exact ih n' m' b b' h2 (by omega) (by omega)
theorem frs_ge (q : Nat → Bool) : ∀ m j, j ≤ frs q m j
  | 0, _ => Nat.le_refl _
  | m + 1, j => by
    show j ≤ (if q j = true then j else frs q m (j + 1))
    have := frs_ge q m (j + 1)
    split <;> omega
theorem frs_hit (q : Nat → Bool) : ∀ m j, frs q m j < j + m → q (frs q m j) = true
  | 0, j, h => absurd h (by show ¬ j < j + 0; omega)
  | m + 1, j, h => by
    have h : (if q j = true then j else frs q m (j + 1)) < j + (m + 1) := h
    show q (if q j = true then j else frs q m (j + 1)) = true
    by_cases c : q j = true
    · rw [if_pos c]; exact c
    · rw [if_neg c] at h ⊢; exact frs_hit q m (j + 1) (by omega)
def skp (b : Nat → Nat) (tl a : Nat) : Nat := frs (fun i => decide (¬ b i = 32)) (tl - a) a
def SV (b : Nat → Nat) (tl p : Nat) : Int32 := if p < tl then nI (b p) else -1
theorem skp_ge {b : Nat → Nat} {tl a : Nat} : a ≤ skp b tl a := frs_ge _ _ _
theorem skp_le {b : Nat → Nat} {tl a : Nat} (h : a ≤ tl) : skp b tl a ≤ tl := by
  have := frs_le (fun i => decide (¬ b i = 32)) (tl - a) a
  unfold skp; omega
theorem skp_skp {b : Nat → Nat} {tl a : Nat} (h : a ≤ tl) : skp b tl (skp b tl a) = skp b tl a := by
  by_cases c : skp b tl a < tl
  · have hq := frs_hit (fun i => decide (¬ b i = 32)) (tl - a) a (by unfold skp at c; omega)
    exact frs_stop c hq
  · have := skp_le (b := b) h
    have e : skp b tl a = tl := by omega
    rw [e]
    unfold skp
    rw [Nat.sub_self]
    rfl
def TB (b : Nat → Nat) (tl : Nat) (bytes : Nat → Int32) : Prop := ∀ i, i < tl → bytes i = nI (b i) ∧ 32 ≤ b i ∧ b i ≤ 126
theorem sight_ok {b : Nat → Nat} {tl a : Nat} {bytes : Nat → Int32} (htl : tl ≤ 60) (h : TB b tl bytes) (ha : a ≤ tl) : f_X9_sight (nI tl) (nI a) bytes = some (SV b tl (skp b tl a), nI (skp b tl a)) := by
  unfold f_X9_sight L_X9_sight_0
  generalize hS : skp b tl a = S
  refine upQ0 _ (fun o => o = some (SV b tl S, nI S)) tl (fun j => skp b tl j = S) (by omega) ?_ ?_ (j := a) ha hS
  · intro j hj hI
    have hb := h j hj
    have ij : inb (nI j) 60 = true := inb_nI (by omega) (by decide)
    by_cases c : b j = 32
    · refine Or.inr ⟨by rw [← hI]; exact (frs_go hj (by rw [decide_eq_true_eq]; exact fun z => z c)).symm, fun rec => ?_⟩
      show LB_X9_sight_0 _ _ _ rec (nI j) = _
      unfold LB_X9_sight_0
      rw [if_neg (nI_ge hj (by omega)), ob_t ij, nI_clamp (by omega), hb.1, if_pos (by rw [c]; rfl), nI_1]
    · have e : S = j := by rw [← hI]; exact frs_stop hj (decide_eq_true c)
      refine Or.inl (fun rec => ?_)
      show LB_X9_sight_0 _ _ _ rec (nI j) = _
      unfold LB_X9_sight_0
      rw [if_neg (nI_ge hj (by omega)), ob_t ij, nI_clamp (by omega), hb.1, if_neg (show ¬ nI (b j) = 32 from fun z => c ((nI_eq (b := 32) (by omega) (by decide)).mp z))]
      show B_X9_sight_38 (nI tl) (nI j) bytes = _
      unfold B_X9_sight_38 B_X9_sight_62 SV
      rw [if_neg (nI_ge hj (by omega)), ob_t ij, nI_clamp (by omega), hb.1, e, if_pos hj]
  · intro hI rec
    have e : S = tl := by rw [← hI]; unfold skp; rw [Nat.sub_self]; rfl
    show LB_X9_sight_0 _ _ _ rec (nI tl) = _
    unfold LB_X9_sight_0
    rw [if_pos (nI_le (Nat.le_refl _) (by omega))]
    show B_X9_sight_38 (nI tl) (nI tl) bytes = _
    unfold B_X9_sight_38 B_X9_sight_62 SV
    rw [if_pos (nI_le (Nat.le_refl _) (by omega)), e, if_neg (by omega)]
theorem ahead_ok {b : Nat → Nat} {tl a : Nat} {bytes : Nat → Int32} (htl : tl ≤ 60) (h : TB b tl bytes) (ha : a ≤ tl) : f_X11_ahead (nI tl) (nI a) bytes = some (SV b tl (skp b tl a), nI (skp b tl a)) := by
  unfold f_X11_ahead L_X11_ahead_0
  generalize hS : skp b tl a = S
  refine upQ0 _ (fun o => o = some (SV b tl S, nI S)) tl (fun j => skp b tl j = S) (by omega) ?_ ?_ (j := a) ha hS
  · intro j hj hI
    have hb := h j hj
    have ij : inb (nI j) 60 = true := inb_nI (by omega) (by decide)
    by_cases c : b j = 32
    · refine Or.inr ⟨by rw [← hI]; exact (frs_go hj (by rw [decide_eq_true_eq]; exact fun z => z c)).symm, fun rec => ?_⟩
      show LB_X11_ahead_0 _ _ _ rec (nI j) = _
      unfold LB_X11_ahead_0
      rw [if_neg (nI_ge hj (by omega)), ob_t ij, nI_clamp (by omega), hb.1, if_pos (by rw [c]; rfl), nI_1]
    · have e : S = j := by rw [← hI]; exact frs_stop hj (decide_eq_true c)
      refine Or.inl (fun rec => ?_)
      show LB_X11_ahead_0 _ _ _ rec (nI j) = _
      unfold LB_X11_ahead_0
      rw [if_neg (nI_ge hj (by omega)), ob_t ij, nI_clamp (by omega), hb.1, if_neg (show ¬ nI (b j) = 32 from fun z => c ((nI_eq (b := 32) (by omega) (by decide)).mp z))]
      show B_X11_ahead_38 (nI tl) (nI j) bytes = _
      unfold B_X11_ahead_38 B_X11_ahead_62 SV
      rw [if_neg (nI_ge hj (by omega)), ob_t ij, nI_clamp (by omega), hb.1, e, if_pos hj]
  · intro hI rec
    have e : S = tl := by rw [← hI]; unfold skp; rw [Nat.sub_self]; rfl
    show LB_X11_ahead_0 _ _ _ rec (nI tl) = _
    unfold LB_X11_ahead_0
    rw [if_pos (nI_le (Nat.le_refl _) (by omega))]
    show B_X11_ahead_38 (nI tl) (nI tl) bytes = _
    unfold B_X11_ahead_38 B_X11_ahead_62 SV
    rw [if_pos (nI_le (Nat.le_refl _) (by omega)), e, if_neg (by omega)]
/-! chain: the kind -/
def kdV (v : Nat) : Int32 := if v = 111 then 0 else if v = 114 then 1 else if v = 112 then 2 else if v = 98 then 3 else -1
theorem kdV_cases (v : Nat) : kdV v = -1 ∨ ∃ k, k ≤ 3 ∧ kdV v = nI k := by
  unfold kdV
  split
  · exact Or.inr ⟨0, by decide, rfl⟩
  · split
    · exact Or.inr ⟨1, by decide, rfl⟩
    · split
      · exact Or.inr ⟨2, by decide, rfl⟩
      · split
        · exact Or.inr ⟨3, by decide, rfl⟩
        · exact Or.inl rfl
theorem kindOf_ok {v : Nat} (hv : v < 128) : f_X11_kindOf (nI v) = some (kdV v) := by
  unfold f_X11_kindOf B_X11_kindOf_41 kdV
  by_cases h1 : v = 111
  · subst h1; rfl
  · rw [if_neg (show ¬ nI v = 111 from fun z => h1 ((nI_eq (b := 111) (by omega) (by decide)).mp z)), if_neg h1]
    by_cases h2 : v = 114
    · subst h2; rfl
    · rw [if_neg (show ¬ nI v = 114 from fun z => h2 ((nI_eq (b := 114) (by omega) (by decide)).mp z)), if_neg h2]
      by_cases h3 : v = 112
      · subst h3; rfl
      · rw [if_neg (show ¬ nI v = 112 from fun z => h3 ((nI_eq (b := 112) (by omega) (by decide)).mp z)), if_neg h3]
        by_cases h4 : v = 98
        · subst h4; rfl
        · rw [if_neg (show ¬ nI v = 98 from fun z => h4 ((nI_eq (b := 98) (by omega) (by decide)).mp z)), if_neg h4]
theorem char_ok {v : Nat} (hv : v < 128) : ((nI v).toUInt32 % 65536).toInt32 = nI v := by
  revert v
  decide +kernel
theorem i8_ok {v : Nat} (hv : v < 128) : (nI v).toInt8.toInt32 = nI v := by
  revert v
  decide +kernel
theorem ixc_ok {v : Nat} (hv : v < 128) : f_J1_indexOfChar_4cfef (nI v) 0 4 = some (kdV v) := by
  unfold f_J1_indexOfChar_4cfef L_J1_indexOfChar_4cfef_7
  rw [i8_ok hv]
  have ho : ∀ j, j < 4 → orpbB j = nI (if j = 0 then 111 else if j = 1 then 114 else if j = 2 then 112 else 98) := by decide
  refine upQ0 _ (fun o => o = some (kdV v)) 4 (fun j => ∀ i, i < j → ¬ v = (if i = 0 then 111 else if i = 1 then 114 else if i = 2 then 112 else 98)) (by decide) ?_ ?_ (j := 0) (by decide) (fun i hi => absurd hi (by omega))
  · intro j hj hI
    have hcode : ∀ rec, LB_J1_indexOfChar_4cfef_7 4 (nI v) (fun t => B_J1_indexOfChar_4cfef_31) rec (nI j) = if nI (if j = 0 then 111 else if j = 1 then 114 else if j = 2 then 112 else 98) = nI v then some (nI j) else rec (nI (j + 1)) := fun rec => by
      unfold LB_J1_indexOfChar_4cfef_7
      rw [if_neg (show ¬ (4 : Int32) ≤ nI j from nI_ge (b := 4) hj (by decide)), ob_t (inb_nI hj (by decide)), nI_clamp (by omega), ho j hj, nI_1]
    have hlt : (if j = 0 then 111 else if j = 1 then 114 else if j = 2 then 112 else 98) < 128 := by
      split
      · decide
      · split
        · decide
        · split <;> decide
    by_cases c : v = (if j = 0 then 111 else if j = 1 then 114 else if j = 2 then 112 else 98)
    · refine Or.inl (fun rec => (hcode rec).trans ?_)
      rw [if_pos (by rw [← c]), c]
      have hj' : j = 0 ∨ j = 1 ∨ j = 2 ∨ j = 3 := by omega
      rcases hj' with rfl | rfl | rfl | rfl <;> rfl
    · refine Or.inr ⟨fun i hi => ?_, fun rec => (hcode rec).trans (if_neg (fun z => c ((nI_eq (by omega) (by omega)).mp z).symm))⟩
      by_cases e : i = j
      · rw [e]; exact c
      · exact hI i (by omega)
  · intro hI rec
    show LB_J1_indexOfChar_4cfef_7 _ _ _ rec (nI 4) = _
    unfold LB_J1_indexOfChar_4cfef_7
    rw [if_pos (by decide)]
    show some (-1 : Int32) = _
    unfold kdV
    rw [if_neg (show ¬ v = 111 from hI 0 (by decide)), if_neg (show ¬ v = 114 from hI 1 (by decide)), if_neg (show ¬ v = 112 from hI 2 (by decide)), if_neg (show ¬ v = 98 from hI 3 (by decide))]
theorem index_ok {v : Nat} (hv : v < 128) : f_J0_indexOf_0f7a4 (((nI v).toUInt32 % 65536).toInt32) = some (kdV v) := by
  rw [char_ok hv]
  have e1 : f_J0_isLatin1_aae02 = some 1 := by
    unfold f_J0_isLatin1_aae02 B_J0_isLatin1_aae02_18
    rw [if_neg (by decide), if_pos rfl, ob_t zb1]
  have e2 : f_J0_length_8abf5 = some 4 := by
    unfold f_J0_length_8abf5
    rfl
  have e3 : f_J1_canEncode_9a6ad (nI v) = some 1 := by
    unfold f_J1_canEncode_9a6ad B_J1_canEncode_9a6ad_16
    rw [if_neg (nI_pos (by omega)), if_neg (show ¬ (255 : Int32) < nI v from nI_nlt (a := 255) (by omega) (by decide)), ob_t zb1]
  unfold f_J0_indexOf_0f7a4 f_J0_indexOf_7cf53 f_J1_indexOf_4cfef B_J0_indexOf_7cf53_36
  rw [e1, Option.bind_some, if_neg n10, e2, Option.bind_some, e3, Option.bind_some, if_neg n10, if_neg (show ¬ (0 : Int32) < 0 by decide), if_neg (show ¬ (4 : Int32) < 4 by decide), if_pos (show (0 : Int32) < 4 by decide), ixc_ok hv]
  rfl
/-! chain: worths -/
def WR (m : Nat) (w : Nat → Nat) (wo ah rw' : Nat → Int32) : Prop := (∀ i, i < m → 1 ≤ w i ∧ w i ≤ 9 ∧ wo i = nI (w i) ∧ rw' i = nI (w i)) ∧ ∀ i, i ≤ m → ah i = nI (pre w i)
theorem SV_in {b : Nat → Nat} {tl p lo hi : Nat} (hb : p < tl → b p < 2 ^ 20) (hlo : lo < 2 ^ 20) (hhi : hi < 2 ^ 20) : (nI lo ≤ SV b tl p ∧ SV b tl p ≤ nI hi) ↔ (p < tl ∧ lo ≤ b p ∧ b p ≤ hi) := by
  unfold SV
  by_cases c : p < tl
  · have := hb c
    rw [if_pos c, nI_leI (by omega) (by omega), nI_leI (by omega) (by omega)]
    exact ⟨fun z => ⟨c, z⟩, fun z => z.2⟩
  · rw [if_neg c]
    constructor
    · intro z
      have h9 : (0 : Int32) ≤ -1 := Int32.le_trans (nI_pos' (by omega)) z.1
      exact absurd h9 (by decide)
    · intro z; exact absurd z.1 c
theorem worths_ok {b : Nat → Nat} {tl a : Nat} {bytes tape wo ah rw' : Nat → Int32} (htl : tl ≤ 60) (hB : TB b tl bytes) (hT : TB b tl tape) (ha : a ≤ tl) (h0 : ah 0 = 0) (kx : Int32 × Int32 × Int32 × (Nat → Int32) × (Nat → Int32) → Option (Int32 × Int32 × (Nat → Int32) × (Nat → Int32))) (kx' : Int32 × Int32 × (Nat → Int32) → Option (Int32 × Int32 × Int32 × Int32 × Int32 × (Nat → Int32))) : ∃ p m w wo' ah' rw2, L_X9_readWorths_2 (nI tl) bytes kx FUEL (0, nI a, 0, wo, ah) = kx (nI m, nI p, nI m, wo', ah') ∧ L_X11_faultOf_48 (nI tl) tape kx' FUEL (nI a, 0, rw') = kx' (nI p, nI m, rw2) ∧ p ≤ tl ∧ m ≤ 24 ∧ WR m w wo' ah' rw2 ∧ (m < 24 → skp b tl p = p) := by
  unfold L_X9_readWorths_2 L_X11_faultOf_48
  refine loopR2 _ _ (fun o o' => ∃ p m w wo' ah' rw2, o = kx (nI m, nI p, nI m, wo', ah') ∧ o' = kx' (nI p, nI m, rw2) ∧ p ≤ tl ∧ m ≤ 24 ∧ WR m w wo' ah' rw2 ∧ (m < 24 → skp b tl p = p)) (fun μ x x' => ∃ p m w wo' ah' rw2, x = (nI m, nI p, nI m, wo', ah') ∧ x' = (nI p, nI m, rw2) ∧ p ≤ tl ∧ m ≤ 24 ∧ μ = tl - p ∧ WR m w wo' ah' rw2) ?_ FUEL FUEL (tl - a) _ _ ⟨a, 0, fun _ => 0, wo, ah, rw', rfl, rfl, ha, by omega, rfl, fun i hi => absurd hi (by omega), fun i hi => by rw [show i = 0 by omega, h0]; rfl⟩ (fuel_lt (by omega)) (fuel_lt (by omega))
  rintro μ x x' ⟨p, m, w, wo', ah', rw2, rfl, rfl, hp, hm, rfl, hW⟩ rec rec'
  show (∃ p2 m2 w2 wo2 ah2 rw3, LB_X9_readWorths_2 (nI tl) bytes kx rec (nI m) (nI p) (nI m) wo' ah' = kx (nI m2, nI p2, nI m2, wo2, ah2) ∧ LB_X11_faultOf_48 (nI tl) tape kx' rec' (nI p) (nI m) rw2 = kx' (nI p2, nI m2, rw3) ∧ p2 ≤ tl ∧ m2 ≤ 24 ∧ WR m2 w2 wo2 ah2 rw3 ∧ (m2 < 24 → skp b tl p2 = p2)) ∨ ∃ m' b1 b1', m' < tl - p ∧ _ ∧ LB_X9_readWorths_2 (nI tl) bytes kx rec (nI m) (nI p) (nI m) wo' ah' = rec b1 ∧ LB_X11_faultOf_48 (nI tl) tape kx' rec' (nI p) (nI m) rw2 = rec' b1'
  unfold LB_X9_readWorths_2 LB_X11_faultOf_48
  by_cases c24 : m = 24
  · left
    rw [if_pos (show (24 : Int32) ≤ nI m from nI_le (a := 24) (by omega) (by omega)), if_pos (show (24 : Int32) ≤ nI m from nI_le (a := 24) (by omega) (by omega))]
    exact ⟨p, m, w, wo', ah', rw2, rfl, rfl, hp, hm, hW, fun z => absurd z (by omega)⟩
  · have hm2 : m < 24 := by omega
    have n24 : ¬ (24 : Int32) ≤ nI m := nI_ge (b := 24) hm2 (by decide)
    have hq := skp_le (b := b) hp
    have hqg := skp_ge (b := b) (tl := tl) (a := p)
    have hqq := skp_skp (b := b) hp
    rw [if_neg n24, if_neg n24, sight_ok htl hB hp, ahead_ok htl hT hp]
    simp only [Option.bind_some]
    rw [within_ok, in_lit _ 49 57 (by decide) (by decide)]
    simp only [Option.bind_some]
    generalize hqe : skp b tl p = q at *
    have hin := SV_in (b := b) (tl := tl) (p := q) (lo := 49) (hi := 57) (fun h => by have := hB q h; omega) (by decide) (by decide)
    by_cases c : (49 : Int32) ≤ SV b tl q ∧ SV b tl q ≤ 57
    · obtain ⟨hqt, hb1, hb2⟩ := hin.mp c
      rw [if_pos c, if_neg n10, if_neg n10, ob_t (inb_nI (by omega) (by decide)), nI_clamp (by omega), (hB q hqt).1, show nI (b q) - (48 : Int32) = nI (b q - 48) from pk_sub (b := 48) (by omega), ahead_ok htl hT hq, hqq]
      simp only [Option.bind_some]
      have ap : f_X1_append (nI m) wo' ah' (nI (b q - 48)) = some (nI (m + 1), upd wo' m (nI (b q - 48)), upd ah' (m + 1) (nI (pre w m) + nI (b q - 48))) := by
        unfold f_X1_append
        rw [ob_t (inb_nI (by omega) (by decide)), ob_t (inb_nI (by omega) (by decide)), nI_1, ob_t (inb_nI (by omega) (by decide)), nI_clamp (by omega), nI_clamp (by omega), hW.2 m (Nat.le_refl _)]
      have es : SV b tl q = nI (b q) := if_pos hqt
      rw [ap, ob_t (inb_nI (by omega) (by decide)), nI_clamp (by omega), es, show nI (b q) - (48 : Int32) = nI (b q - 48) from pk_sub (b := 48) (by omega), nI_1, nI_1, nI_add]
      simp only [Option.bind_some]
      right
      have hpre : ∀ i, i ≤ m → pre (upN w m (b q - 48)) i = pre w i := fun i hi => pre_congr i (fun j hj => if_neg (by omega))
      refine ⟨tl - (q + 1), _, _, by omega, ⟨q + 1, m + 1, upN w m (b q - 48), _, _, _, rfl, rfl, by omega, by omega, rfl, fun i hi => ?_, fun i hi => ?_⟩, rfl, rfl⟩
      · by_cases e : i = m
        · rw [e, pk_us, pk_us, show upN w m (b q - 48) m = b q - 48 from if_pos rfl]
          exact ⟨by omega, by omega, rfl, rfl⟩
        · rw [pk_un e, pk_un e, show upN w m (b q - 48) i = w i from if_neg e]
          exact hW.1 i (by omega)
      · by_cases e : i = m + 1
        · rw [e, pk_us]
          show _ = nI (pre (upN w m (b q - 48)) m + upN w m (b q - 48) m)
          rw [hpre m (Nat.le_refl _), show upN w m (b q - 48) m = b q - 48 from if_pos rfl]
        · rw [pk_un e, hpre i (by omega)]; exact hW.2 i (by omega)
    · left
      rw [if_neg c, if_pos rfl, if_pos rfl]
      exact ⟨q, m, w, wo', ah', rw2, rfl, rfl, hq, hm, hW, fun _ => hqq⟩
