theorem and255_8 (x : Int32) : (x &&& 255).toInt8 = x.toInt8 := by
  apply Int8.toBitVec_inj.mp
  rw [Int32.toBitVec_toInt8, Int32.toBitVec_toInt8]
  apply BitVec.eq_of_getLsbD_eq
  intro i hi
  have h255 := b_255 i
  unfold bt at h255
  rw [BitVec.getLsbD_signExtend, BitVec.getLsbD_signExtend]
  simp only [Int32.toBitVec_and, BitVec.getLsbD_and]
  rw [h255]
  simp [hi, show i < 32 by omega]
theorem and255_b (x : Int32) : 0 ≤ (x &&& 255).toInt ∧ (x &&& 255).toInt < 256 := by
  obtain ⟨n, hn, rfl⟩ := wb_of32 x
  rw [show (255 : Int32) = nI 255 from rfl, nx_and]
  have h : n &&& 255 < 256 := Nat.and_lt_two_pow n (n := 8) (by decide)
  rw [nI_toInt (by omega)]
  omega
