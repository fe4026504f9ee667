/-! the model's type -/
theorem sh_eq (row b : Int64) (c : UInt64) (s : Nat) (hs : s ≤ 56) (hb : (b.toBitVec.smod 64).toNat = s) (hc : c.toBitVec.toNat % 64 = s) : (row >>> b) &&& (255 : Int64) = (row.toUInt64 >>> c).toInt64 &&& (255 : Int64) := by
  apply Int64.toBitVec_inj.1
  rw [Int64.toBitVec_and, Int64.toBitVec_and, Int64.toBitVec_shiftRight]
  have e2 : (row.toUInt64 >>> c).toInt64.toBitVec = row.toBitVec >>> s := by
    show (row.toUInt64 >>> c).toBitVec = _
    rw [UInt64.toBitVec_shiftRight]
    show row.toBitVec >>> (c.toBitVec % 64).toNat = _
    rw [BitVec.toNat_umod, show ((64 : BitVec 64)).toNat = 64 from rfl, hc]
  rw [e2, BitVec.sshiftRight', hb]
  apply BitVec.eq_of_getLsbD_eq
  intro i hi
  rw [BitVec.getLsbD_and, BitVec.getLsbD_and, BitVec.getLsbD_sshiftRight, BitVec.getLsbD_ushiftRight]
  by_cases h8 : i < 8
  · rw [decide_eq_false (by omega), if_pos (by omega)]
    simp
  · have : (Int64.toBitVec 255).getLsbD i = false := by
      show (255#64).getLsbD i = false
      have : (255#64) = (255#8).setWidth 64 := by decide
      rw [this, BitVec.getLsbD_setWidth, BitVec.getLsbD_of_ge _ _ (by omega)]
      simp
    rw [this, Bool.and_false, Bool.and_false]
theorem tcd_m {row : Int64} {i : Nat} (hi : i < 8) : ((row >>> (((8 : Int32) * nI i).toInt64 &&& 63)) &&& (255 : Int64)) = (((row.toUInt64 >>> (((8 : Int32) * nI i).toInt64.toUInt64 &&& Int64.toUInt64 63)).toInt64) &&& (255 : Int64)) := by
  have h2 : ∀ i, i < 8 → ((((8 : Int32) * nI i).toInt64 &&& 63).toBitVec.smod 64).toNat = 8 * i ∧ (((8 : Int32) * nI i).toInt64.toUInt64 &&& Int64.toUInt64 63).toBitVec.toNat % 64 = 8 * i := by decide +kernel
  exact sh_eq row _ _ (8 * i) (by omega) (h2 i hi).1 (h2 i hi).2
theorem tcd_v {row : Int64} {i : Nat} (hi : i < 8) : ((row >>> (((8 : Int32) * nI i).toInt64 &&& 63)) &&& (255 : Int64)).toInt32 = tcd row i := by
  rw [tcd_m hi]
  rfl
theorem and255_0 (v : Int64) : (v &&& (255 : Int64)).toInt32 = 0 ↔ v &&& (255 : Int64) = 0 := by
  constructor
  · intro h
    have h := congrArg Int32.toBitVec h
    rw [Int64.toBitVec_toInt32, Int64.toBitVec_and] at h
    apply Int64.toBitVec_inj.1
    rw [Int64.toBitVec_and]
    apply BitVec.eq_of_getLsbD_eq
    intro i hi
    by_cases h8 : i < 8
    · have h2 := congrArg (fun b : BitVec 32 => b.getLsbD i) h
      have h2 : (BitVec.signExtend 32 (v.toBitVec &&& Int64.toBitVec 255)).getLsbD i = (0#32).getLsbD i := h2
      rw [BitVec.getLsbD_signExtend, decide_eq_true (show i < 32 by omega), Bool.true_and, if_pos (show i < 64 by omega)] at h2
      rw [h2]
      show (0#32).getLsbD i = (0#64).getLsbD i
      simp
    · have : (Int64.toBitVec 255).getLsbD i = false := by
        show (255#64).getLsbD i = false
        have : (255#64) = (255#8).setWidth 64 := by decide
        rw [this, BitVec.getLsbD_setWidth, BitVec.getLsbD_of_ge _ _ (by omega)]
        simp
      rw [BitVec.getLsbD_and, this, Bool.and_false]
      show false = (0#64).getLsbD i
      simp
  · intro h
    rw [h]
    rfl
theorem cmp_tcd {row : Int64} {i : Nat} (hi : i < 8) : lg_cmp ((row >>> (((8 : Int32) * nI i).toInt64 &&& 63)) &&& (255 : Int64)) (0 : Int64) = 0 ↔ tcd row i = 0 := by
  rw [← tcd_v hi, and255_0]
  unfold lg_cmp
  generalize ((row >>> (((8 : Int32) * nI i).toInt64 &&& 63)) &&& (255 : Int64)) = v
  constructor
  · intro h
    split at h
    · exact absurd h (by decide)
    · split at h
      · assumption
      · exact absurd h (by decide)
  · intro h
    subst h
    decide
