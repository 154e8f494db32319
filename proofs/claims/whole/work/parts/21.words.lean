/-! longs as bits -/
theorem lit6 (n : Nat) : (no_index (OfNat.ofNat n) : Int64) = lN (OfNat.ofNat n) := rfl
theorem bvL (n : Nat) : (lN n).toBitVec = BitVec.ofNat 64 n := rfl
theorem lN_of (v : Int64) : ∃ x, x < 2 ^ 64 ∧ v = lN x := ⟨v.toBitVec.toNat, v.toBitVec.isLt, by
  apply Int64.toBitVec_inj.mp
  rw [bvL, BitVec.ofNat_toNat, BitVec.setWidth_eq]⟩
theorem andL (a b : Nat) : lN a &&& lN b = lN (a &&& b) := by
  apply Int64.toBitVec_inj.mp
  rw [Int64.toBitVec_and, bvL, bvL, bvL]
  exact (BitVec.ofNat_and).symm
theorem orL (a b : Nat) : lN a ||| lN b = lN (a ||| b) := by
  apply Int64.toBitVec_inj.mp
  rw [Int64.toBitVec_or, bvL, bvL, bvL]
  exact (BitVec.ofNat_or).symm
theorem n63 {b : Nat} (h : b < 64) : b &&& 63 = b := by
  rw [show (63 : Nat) = 2 ^ 6 - 1 from rfl, Nat.and_two_pow_sub_one_eq_mod, Nat.mod_eq_of_lt (by omega)]
theorem smodL {s : Nat} (h : s < 64) : ((lN s).toBitVec.smod 64).toNat = s := by
  revert s
  decide +kernel
theorem bvL_lt {x : Nat} (h : x < 2 ^ 64) : (lN x).toBitVec.toNat = x := Nat.mod_eq_of_lt h
theorem lN_mod (x : Nat) : lN (x % 2 ^ 64) = lN x := by
  apply Int64.toBitVec_inj.mp
  rw [bvL, bvL]
  apply BitVec.eq_of_toNat_eq
  simp
theorem lN_inj {a b : Nat} (ha : a < 2 ^ 64) (hb : b < 2 ^ 64) : lN a = lN b ↔ a = b := by
  constructor
  · intro h
    have := congrArg (fun z => z.toBitVec.toNat) h
    simpa only [bvL_lt ha, bvL_lt hb] using this
  · rintro rfl; rfl
theorem shlL {x s : Nat} (h : s < 64) : lN x <<< lN s = lN (x * 2 ^ s) := by
  apply Int64.toBitVec_inj.mp
  rw [Int64.toBitVec_shiftLeft, bvL x, bvL (x * 2 ^ s)]
  apply BitVec.eq_of_toNat_eq
  rw [BitVec.shiftLeft_eq', BitVec.toNat_shiftLeft, smodL h, BitVec.toNat_ofNat, BitVec.toNat_ofNat, Nat.shiftLeft_eq, Nat.mul_mod, Nat.mod_mod, ← Nat.mul_mod]
theorem sarL {x s : Nat} (k : Nat) (hx : x < 2 ^ 64) (h : s + k ≤ 64) (hk : 1 ≤ k) : (lN x >>> lN s) &&& lN (2 ^ k - 1) = lN (x / 2 ^ s % 2 ^ k) := by
  apply Int64.toBitVec_inj.mp
  rw [Int64.toBitVec_and, Int64.toBitVec_shiftRight, bvL (2 ^ k - 1), bvL (x / 2 ^ s % 2 ^ k)]
  apply BitVec.eq_of_getLsbD_eq
  intro i hi
  rw [BitVec.getLsbD_and, BitVec.getLsbD_sshiftRight', smodL (by omega), BitVec.getLsbD_ofNat, BitVec.getLsbD_ofNat, Nat.testBit_two_pow_sub_one, Nat.testBit_mod_two_pow, Nat.testBit_div_two_pow]
  by_cases hk2 : i < k
  · rw [if_pos (by omega), decide_eq_true hk2, decide_eq_true hi, decide_eq_false (show ¬ 64 ≤ i by omega), ← BitVec.testBit_toNat, bvL_lt hx, Nat.add_comm s i]
    simp
  · rw [decide_eq_false hk2]
    simp
theorem umodL {s : Nat} (h : s < 64) : ((lN s).toUInt64 &&& Int64.toUInt64 63).toBitVec.toNat % 64 = s := by
  revert s
  decide +kernel
theorem ushrL {x s : Nat} (hx : x < 2 ^ 64) (h : s < 64) : ((lN x).toUInt64 >>> ((lN s).toUInt64 &&& Int64.toUInt64 63)).toInt64 = lN (x / 2 ^ s) := by
  apply Int64.toBitVec_inj.mp
  rw [bvL]
  show ((lN x).toUInt64 >>> ((lN s).toUInt64 &&& Int64.toUInt64 63)).toBitVec = _
  rw [UInt64.toBitVec_shiftRight]
  apply BitVec.eq_of_toNat_eq
  rw [BitVec.ushiftRight_eq', BitVec.toNat_ushiftRight, BitVec.toNat_umod]
  show (lN x).toBitVec.toNat >>> (_ % 64) = _
  rw [umodL h, bvL_lt hx, Nat.shiftRight_eq_div_pow, BitVec.toNat_ofNat, Nat.mod_eq_of_lt (Nat.lt_of_le_of_lt (Nat.div_le_self _ _) hx)]
theorem lN_i32 {x : Nat} : (lN x).toInt32 = nI x := lN_i x
theorem byte_ok {v : Int64} {i : Nat} (hi : i < 8) : ∃ b, b < 256 ∧ f_X9_byteOf v (nI i) = some (nI b) ∧ (v >>> (((8 : Int32) * nI i).toInt64 &&& 63)) &&& (255 : Int64) = lN b := by
  obtain ⟨x, hx, rfl⟩ := lN_of v
  have e1 : ((8 : Int32) * nI i).toInt64 = lN (8 * i) := by
    rw [show (8 : Int32) * nI i = nI (8 * i) from pk_mul 8 i, nI_l (by omega)]
  refine ⟨x / 2 ^ (8 * i) % 2 ^ 8, Nat.mod_lt _ (by decide), ?_, ?_⟩
  · unfold f_X9_byteOf
    rw [e1, ushrL hx (by omega), show (255 : Int64) = lN (2 ^ 8 - 1) from rfl, andL, Nat.and_two_pow_sub_one_eq_mod, lN_i]
  · rw [e1, show (63 : Int64) = lN 63 from rfl, andL, n63 (by omega), show (255 : Int64) = lN (2 ^ 8 - 1) from rfl, sarL 8 hx (by omega) (by decide)]
theorem nb_ok {b : Nat} (h : b < 128) : vp_nar .byte (nI b).toInt8.toInt32 = nI b := by
  rw [vp_nar_byte]
  revert b
  decide +kernel
