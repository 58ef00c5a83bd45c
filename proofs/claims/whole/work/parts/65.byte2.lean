/-! .. as the pure functions of both sides write it -/
theorem pv_bits2 (v : BitVec 64) (k : Nat) (hk : k ≤ 56) : (v >>> k).signExtend 32 &&& 255#32 = ((v.sshiftRight k) &&& 255#64).signExtend 32 := by
  have e : ∀ w : BitVec 64, w.signExtend 32 = w.truncate 32 := fun w => by
    apply BitVec.eq_of_getLsbD_eq
    intro i hi
    have h : i < 64 := by omega
    first | (simp [BitVec.getElem_signExtend, hi, h]; done) | (rw [BitVec.getLsbD_signExtend]; simp [hi, h])
  rw [e, e]
  exact pv_bits v k hk
theorem pv_byte (x : Int64) (j : Int32) (h : ¬ j < 0) (h1 : j < 8) : ((((x).toUInt64 >>> ((((8 : Int32) * j)).toInt64.toUInt64 &&& Int64.toUInt64 63)).toInt64).toInt32) &&& (255 : Int32) = ((x >>> ((((8 : Int32) * j)).toInt64 &&& 63)) &&& (255 : Int64)).toInt32 := by
  have h2 : ¬ j.toInt < 0 := fun z => h (Int32.lt_iff_toInt_lt.mpr z)
  have h3 : j.toInt < 8 := Int32.lt_iff_toInt_lt.mp h1
  have key : ∀ k : Nat, j.toInt = (k : Int) → k < 2 ^ 31 → j = Int32.ofNat k := fun k hk hk2 => Int32.toInt_inj.mp (by rw [hk, Int32.toInt_ofNat_of_lt hk2])
  rcases (show j.toInt = 0 ∨ j.toInt = 1 ∨ j.toInt = 2 ∨ j.toInt = 3 ∨ j.toInt = 4 ∨ j.toInt = 5 ∨ j.toInt = 6 ∨ j.toInt = 7 by omega) with e | e | e | e | e | e | e | e
  · rw [key 0 e (by decide)]; exact congrArg Int32.ofBitVec (pv_bits2 x.toBitVec 0 (by decide))
  · rw [key 1 e (by decide)]; exact congrArg Int32.ofBitVec (pv_bits2 x.toBitVec 8 (by decide))
  · rw [key 2 e (by decide)]; exact congrArg Int32.ofBitVec (pv_bits2 x.toBitVec 16 (by decide))
  · rw [key 3 e (by decide)]; exact congrArg Int32.ofBitVec (pv_bits2 x.toBitVec 24 (by decide))
  · rw [key 4 e (by decide)]; exact congrArg Int32.ofBitVec (pv_bits2 x.toBitVec 32 (by decide))
  · rw [key 5 e (by decide)]; exact congrArg Int32.ofBitVec (pv_bits2 x.toBitVec 40 (by decide))
  · rw [key 6 e (by decide)]; exact congrArg Int32.ofBitVec (pv_bits2 x.toBitVec 48 (by decide))
  · rw [key 7 e (by decide)]; exact congrArg Int32.ofBitVec (pv_bits2 x.toBitVec 56 (by decide))
