/-! THE REFERENCE'S LONGS: what is read out of them -/
theorem bv_hiz (s : BitVec 64) (n k : Nat) (h : n + k ≤ 32) : (s <<< 32).sshiftRight n &&& BitVec.ofNat 64 (2 ^ k - 1) = 0#64 := by
  apply BitVec.eq_of_getLsbD_eq
  intro i hi
  rw [BitVec.getLsbD_and, BitVec.getLsbD_sshiftRight, BitVec.getLsbD_ofNat, Nat.testBit_two_pow_sub_one]
  by_cases hk : i < k
  · have h1 : n + i < 64 := by omega
    have h2 : n + i < 32 := by omega
    simp [h1, h2, BitVec.getLsbD_shiftLeft, hi]
  · simp [hk]
theorem bv_hi (s : BitVec 32) : ((s.signExtend 64 <<< 32).sshiftRight 32).setWidth 32 = s := by
  apply BitVec.eq_of_getLsbD_eq
  intro i hi
  rw [BitVec.getLsbD_setWidth, BitVec.getLsbD_sshiftRight]
  have h1 : 32 + i < 64 := by omega
  have h2 : ¬ 64 ≤ i := by omega
  have h3 : i < 64 := by omega
  have h4 : ¬ 32 + i < 32 := by omega
  simp [h1, h2, h3, h4, hi, BitVec.getLsbD_shiftLeft, BitVec.getElem_signExtend]
theorem pk_split (t : Int32) (k i o : Nat) : pk (t, k, i, o) = (t.toInt64 <<< ((32 : Int32).toInt64 &&& 63)) ||| pkY k i o := by
  unfold pk pkY
  show ((_ ||| _) ||| _) ||| _ = _ ||| ((_ ||| _) ||| _)
  rw [Int64.or_assoc, Int64.or_assoc, Int64.or_assoc]
theorem bv_c32 : ((32 : Int32).toInt64 &&& 63).toBitVec.smod 64 = 32#64 := by decide
theorem bv_c24 : ((24 : Int32).toInt64 &&& 63).toBitVec.smod 64 = 24#64 := by decide
theorem bv_c8 : ((8 : Int32).toInt64 &&& 63).toBitVec.smod 64 = 8#64 := by decide
theorem pq_sr (x y : Int64) (c : Int64) : (x ||| y) >>> c = (x >>> c) ||| (y >>> c) := by
  apply Int64.toBitVec_inj.mp
  rw [Int64.toBitVec_shiftRight, Int64.toBitVec_or, Int64.toBitVec_or, Int64.toBitVec_shiftRight, Int64.toBitVec_shiftRight]
  exact BitVec.sshiftRight_or_distrib _ _ _
theorem pq_and (x y z : Int64) : (x ||| y) &&& z = (x &&& z) ||| (y &&& z) := by
  apply Int64.toBitVec_inj.mp
  rw [Int64.toBitVec_and, Int64.toBitVec_or, Int64.toBitVec_or, Int64.toBitVec_and, Int64.toBitVec_and]
  exact BitVec.and_or_distrib_right
theorem pk_z24 (x : Int64) : ((x <<< ((32 : Int32).toInt64 &&& 63)) >>> ((24 : Int32).toInt64 &&& 63)) &&& (255 : Int64) = 0 := by
  apply Int64.toBitVec_inj.mp
  rw [Int64.toBitVec_and, Int64.toBitVec_shiftRight, Int64.toBitVec_shiftLeft, bv_c24, bv_c32]
  exact bv_hiz x.toBitVec 24 8 (by decide)
theorem pk_z8 (x : Int64) : ((x <<< ((32 : Int32).toInt64 &&& 63)) >>> ((8 : Int32).toInt64 &&& 63)) &&& (65535 : Int64) = 0 := by
  apply Int64.toBitVec_inj.mp
  rw [Int64.toBitVec_and, Int64.toBitVec_shiftRight, Int64.toBitVec_shiftLeft, bv_c8, bv_c32]
  exact bv_hiz x.toBitVec 8 16 (by decide)
theorem pk_z8b (x : Int64) : ((x <<< ((32 : Int32).toInt64 &&& 63)) >>> ((8 : Int32).toInt64 &&& 63)) &&& (255 : Int64) = 0 := by
  apply Int64.toBitVec_inj.mp
  rw [Int64.toBitVec_and, Int64.toBitVec_shiftRight, Int64.toBitVec_shiftLeft, bv_c8, bv_c32]
  exact bv_hiz x.toBitVec 8 8 (by decide)
theorem pk_z0 (x : Int64) : (x <<< ((32 : Int32).toInt64 &&& 63)) &&& (255 : Int64) = 0 := by
  apply Int64.toBitVec_inj.mp
  rw [Int64.toBitVec_and, Int64.toBitVec_shiftLeft, bv_c32]
  have := bv_hiz x.toBitVec 0 8 (by decide)
  rw [BitVec.sshiftRight_zero] at this
  exact this
theorem pk_hi (t : Int32) : ((t.toInt64 <<< ((32 : Int32).toInt64 &&& 63)) >>> ((32 : Int32).toInt64 &&& 63)).toInt32 = t := by
  apply Int32.toBitVec_inj.mp
  rw [Int64.toBitVec_toInt32, Int64.toBitVec_shiftRight, Int64.toBitVec_shiftLeft, bv_c32, Int32.toBitVec_toInt64, BitVec.shiftLeft_eq', BitVec.sshiftRight_eq', show (32#64).toNat = 32 by decide, BitVec.signExtend_eq_setWidth_of_le _ (show 32 ≤ 64 by decide)]
  exact bv_hi t.toBitVec
theorem pk_time (t : Int32) {k i o : Nat} (hk : k < 3) (hi : i ≤ 60) (ho : o < 8) : (pk (t, k, i, o) >>> ((32 : Int32).toInt64 &&& 63)).toInt32 = t := by
  rw [pk_split, pq_sr, (pkY_facts k hk i (by omega) o ho).1, Int64.or_zero, pk_hi]
theorem pk_kind (t : Int32) {k i o : Nat} (hk : k < 3) (hi : i ≤ 60) (ho : o < 8) : ((pk (t, k, i, o) >>> ((24 : Int32).toInt64 &&& 63)) &&& (255 : Int64)).toInt32 = nI k := by
  rw [pk_split, pq_sr, pq_and, pk_z24, Int64.zero_or]
  exact (pkY_facts k hk i (by omega) o ho).2.1
theorem pk_item (t : Int32) {k i o : Nat} (hk : k < 3) (hi : i ≤ 60) (ho : o < 8) : ((pk (t, k, i, o) >>> ((8 : Int32).toInt64 &&& 63)) &&& (65535 : Int64)).toInt32 = nI i := by
  rw [pk_split, pq_sr, pq_and, pk_z8, Int64.zero_or]
  exact (pkY_facts k hk i (by omega) o ho).2.2.1
theorem pk_item8 (t : Int32) {k i o : Nat} (hk : k < 3) (hi : i ≤ 60) (ho : o < 8) : ((pk (t, k, i, o) >>> ((8 : Int32).toInt64 &&& 63)) &&& (255 : Int64)).toInt32 = nI i := by
  rw [pk_split, pq_sr, pq_and, pk_z8b, Int64.zero_or]
  exact (pkY_facts k hk i (by omega) o ho).2.2.2.1
theorem pk_where (t : Int32) {k i o : Nat} (hk : k < 3) (hi : i ≤ 60) (ho : o < 8) : (pk (t, k, i, o) &&& (255 : Int64)).toInt32 = nI o := by
  rw [pk_split, pq_and, pk_z0, Int64.zero_or]
  exact (pkY_facts k hk i (by omega) o ho).2.2.2.2
