/-! one way to write ints -/
theorem lit (n : Nat) : (no_index (OfNat.ofNat n) : Int32) = nI (OfNat.ofNat n) := rfl
theorem nI_subT {a b : Nat} (h : b ≤ a) : nI a - nI b = nI (a - b) := pk_sub h
theorem nI_m1T {a : Nat} (h : 1 ≤ a) : nI a + -nI 1 = nI (a - 1) := by
  obtain ⟨b, rfl⟩ : ∃ b, a = b + 1 := ⟨a - 1, by omega⟩
  exact pk_m1 b
theorem inb_T {i n : Nat} (h : i < n) (hn : n < 2 ^ 31) : inb (nI i) n = true := inb_nI h hn
theorem ob_tt {α : Type} (x : Option α) : ob true x = x := if_pos rfl
theorem and31 {b : Nat} (h : b < 32) : nI b &&& nI 31 = nI b := by
  have := pk_andN (n := b) (by omega) (m := nI 31) 5 (by decide)
  rw [this, Nat.mod_eq_of_lt (by omega)]
theorem n31 {b : Nat} (h : b < 32) : b &&& 31 = b := by
  rw [show (31 : Nat) = 2 ^ 5 - 1 from rfl, Nat.and_two_pow_sub_one_eq_mod, Nat.mod_eq_of_lt (by omega)]
theorem m1lt : (-nI 1 < nI 0) = True := by decide
theorem m1ge : (nI 0 ≤ -nI 1) = False := by decide
theorem n10 : ¬ (1 : Int32) = 0 := by decide
theorem smod_n {b : Nat} (h : b < 32) : ((nI b).toBitVec.smod 32).toNat = b := by
  revert b
  decide +kernel
theorem shl1_n {b : Nat} (h : b < 31) : nI 1 <<< nI b = nI (2 ^ b) := by
  have hp : 2 ^ b < 2 ^ 32 := Nat.pow_lt_pow_right (by decide) (by omega)
  rw [pk_shlN (nI b) b (smod_n (by omega)) (by omega), Nat.one_mul]
theorem shr_n' {a b : Nat} (ha : a < 2 ^ 31) (h : b < 32) : nI a >>> nI b = nI (a / 2 ^ b) := pk_shrN ha (nI b) b (smod_n h)
theorem bv_nI (n : Nat) : (nI n).toBitVec = BitVec.ofNat 32 n := rfl
theorem and_n (a b : Nat) : nI a &&& nI b = nI (a &&& b) := by
  apply Int32.toBitVec_inj.mp
  rw [Int32.toBitVec_and, bv_nI, bv_nI, bv_nI]
  exact (BitVec.ofNat_and).symm
theorem or_n (a b : Nat) : nI a ||| nI b = nI (a ||| b) := by
  apply Int32.toBitVec_inj.mp
  rw [Int32.toBitVec_or, bv_nI, bv_nI, bv_nI]
  exact (BitVec.ofNat_or).symm
theorem xor_n (a b : Nat) : nI a ^^^ nI b = nI (a ^^^ b) := by
  apply Int32.toBitVec_inj.mp
  rw [Int32.toBitVec_xor, bv_nI, bv_nI, bv_nI]
  exact (BitVec.ofNat_xor).symm
theorem dvd_n {a d : Nat} (ha : a < 2 ^ 31) (h0 : 0 < d) (hd : d < 2 ^ 31) : nI a / nI d = nI (a / d) := pk_div ha h0 hd
/-- a loop that keeps I, whose measure falls, and ends in Q -/
theorem loopQ {α β : Type} (body : (α → Option β) → α → Option β) (Q : Option β → Prop) (I : Nat → α → Prop) (step : ∀ m a, I m a → (∀ rec, Q (body rec a)) ∨ ∃ m' b, m' < m ∧ I m' b ∧ ∀ rec, body rec a = rec b) : ∀ (fuel m : Nat) (a : α), I m a → m < fuel → Q (fixN body fuel a) := by
  intro fuel
  induction fuel with
  | zero => intro m a _ h; exact absurd h (Nat.not_lt_zero _)
  | succ n ih =>
    intro m a hI hm
    rcases step m a hI with h | ⟨m', b, h1, h2, h3⟩
    · exact h _
    · show Q (body (fixN body n) a)
      rw [h3]
      exact ih m' b h2 (by omega)
/-- a loop that counts up -/
theorem upQ {σ β : Type} (body : (Int32 × σ → Option β) → Int32 × σ → Option β) (Q : Option β → Prop) (N : Nat) (I : Nat → σ → Prop) (hN : N < 2 ^ 39) (step : ∀ j s, j < N → I j s → (∀ rec, Q (body rec (nI j, s))) ∨ ∃ s', I (j + 1) s' ∧ ∀ rec, body rec (nI j, s) = rec (nI (j + 1), s')) (fin : ∀ s, I N s → ∀ rec, Q (body rec (nI N, s))) {j : Nat} {s : σ} (hj : j ≤ N) (h : I j s) : Q (fixN body FUEL (nI j, s)) := by
  refine loopQ body Q (fun m a => ∃ j s, a = (nI j, s) ∧ j ≤ N ∧ m = N - j ∧ I j s) ?_ FUEL (N - j) _ ⟨j, s, rfl, hj, rfl, h⟩ (fuel_lt (by omega))
  rintro m a ⟨j, s, rfl, hj, rfl, hI⟩
  by_cases e : j = N
  · subst e; exact Or.inl (fin s hI)
  · rcases step j s (by omega) hI with h | ⟨s', h1, h2⟩
    · exact Or.inl h
    · exact Or.inr ⟨N - (j + 1), _, by omega, ⟨j + 1, s', rfl, by omega, rfl, h1⟩, h2⟩
/-- the same with nothing but the counter -/
theorem upQ0 {β : Type} (body : (Int32 → Option β) → Int32 → Option β) (Q : Option β → Prop) (N : Nat) (I : Nat → Prop) (hN : N < 2 ^ 39) (step : ∀ j, j < N → I j → (∀ rec, Q (body rec (nI j))) ∨ (I (j + 1) ∧ ∀ rec, body rec (nI j) = rec (nI (j + 1)))) (fin : I N → ∀ rec, Q (body rec (nI N))) {j : Nat} (hj : j ≤ N) (h : I j) : Q (fixN body FUEL (nI j)) := by
  refine loopQ body Q (fun m a => ∃ j, a = nI j ∧ j ≤ N ∧ m = N - j ∧ I j) ?_ FUEL (N - j) _ ⟨j, rfl, hj, rfl, h⟩ (fuel_lt (by omega))
  rintro m a ⟨j, rfl, hj, rfl, hI⟩
  by_cases e : j = N
  · subst e; exact Or.inl (fin hI)
  · rcases step j (by omega) hI with h | ⟨h1, h2⟩
    · exact Or.inl h
    · exact Or.inr ⟨N - (j + 1), _, by omega, ⟨j + 1, rfl, by omega, rfl, h1⟩, h2⟩
