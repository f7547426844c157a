/-! READERS: what a method that only reads answers, in terms of the memory -/
theorem cell_nI (r p : Nat) : nI r * 16 + nI p = nI (16 * r + p) := by
  rw [show (16 : Int32) = nI 16 from rfl, nI_mul, nI_add, Nat.mul_comm]
theorem c_scoreAt (N : Nat) {r p : Nat} (hr : r < 12) (hp : p < 16) (m : Mem) : f_X7_scoreAt N (nI r) (nI p) m = some (gI m 4 (16 * r + p), m) := by
  unfold f_X7_scoreAt f_X9_cell
  rw [b2_of rfl, cell_nI, gd_t (inb_nI (by omega) (by omega)), nI_clamp (by omega)]
theorem c_hasReview (N : Nat) {r p : Nat} (hr : r < 12) (hp : p < 16) (m : Mem) : f_X7_hasReview N (nI r) (nI p) m = some (if gI m 4 (16 * r + p) = 0 then 0 else 1, m) := by
  unfold f_X7_hasReview
  rw [b2_of (c_scoreAt N hr hp m)]
  split <;> rfl
theorem c_hasScore (N : Nat) {r p : Nat} (hr : r < 12) (hp : p < 16) (m : Mem) : f_X7_hasScore N (nI r) (nI p) m = some (if gI m 4 (16 * r + p) ≤ 0 then 0 else 1, m) := by
  unfold f_X7_hasScore
  rw [b2_of (c_scoreAt N hr hp m)]
  split <;> rfl
theorem c_put (N : Nat) {r p : Nat} (hr : r < 12) (hp : p < 16) (v : Int32) (m : Mem) : f_X7_put N (nI r) (nI p) v m = some (sI m 4 (16 * r + p) v) := by
  unfold f_X7_put f_X9_cell
  rw [b2_of rfl, cell_nI, gd_t (inb_nI (by omega) (by omega)), nI_clamp (by omega)]
  rfl
theorem c_revR {N : Nat} (hN : 16 < N) {r : Nat} (hr : r < 12) (m : Mem) : f_X7_reviewsOfReviewer N (nI r) m = some (nI (cnt (fun p => decide (¬ gI m 4 (16 * r + p) = 0)) 16), m) := by
  unfold f_X7_reviewsOfReviewer
  refine (l2_of (y := nI (cnt (fun p => decide (¬ gI m 4 (16 * r + p) = 0)) 16)) (m := m) ?_).trans rfl
  refine loop_fn (fun n i => L_X7_reviewsOfReviewer_4 N n (nI r) (nI (cnt (fun p => decide (¬ gI m 4 (16 * r + p) = 0)) i)) (nI i) m) 16 _ (fun n i hi => ?_) (fun n => ?_) 16 N 0 rfl hN
  · show T_X7_reviewsOfReviewer_4 N (L_X7_reviewsOfReviewer_4 N n) _ _ _ _ = L_X7_reviewsOfReviewer_4 N n _ _ _ _
    unfold T_X7_reviewsOfReviewer_4
    rw [if_neg (show ¬ (16 : Int32) ≤ nI i from nI_ge (b := 16) hi (by omega)), b2_of (c_hasReview N hr hi m), nI_1, nI_1]
    simp only [if01, cnt]
    by_cases h : gI m 4 (16 * r + i) = 0
    · simp [h]
    · simp [h]
  · show T_X7_reviewsOfReviewer_4 N (L_X7_reviewsOfReviewer_4 N n) _ _ _ _ = _
    unfold T_X7_reviewsOfReviewer_4
    rw [if_pos (show (16 : Int32) ≤ nI 16 by decide)]
theorem c_revP {N : Nat} (hN : 12 < N) {p : Nat} (hp : p < 16) (m : Mem) : f_X7_reviewsOfProposal N (nI p) m = some (nI (cnt (fun r => decide (¬ gI m 4 (16 * r + p) = 0)) 12), m) := by
  unfold f_X7_reviewsOfProposal
  refine (l2_of (y := nI (cnt (fun r => decide (¬ gI m 4 (16 * r + p) = 0)) 12)) (m := m) ?_).trans rfl
  refine loop_fn (fun n i => L_X7_reviewsOfProposal_4 N n (nI p) (nI (cnt (fun r => decide (¬ gI m 4 (16 * r + p) = 0)) i)) (nI i) m) 12 _ (fun n i hi => ?_) (fun n => ?_) 12 N 0 rfl hN
  · show T_X7_reviewsOfProposal_4 N (L_X7_reviewsOfProposal_4 N n) _ _ _ _ = L_X7_reviewsOfProposal_4 N n _ _ _ _
    unfold T_X7_reviewsOfProposal_4
    rw [if_neg (show ¬ (12 : Int32) ≤ nI i from nI_ge (b := 12) hi (by omega)), b2_of (c_hasReview N hi hp m), nI_1, nI_1]
    simp only [if01, cnt]
    by_cases h : gI m 4 (16 * i + p) = 0
    · simp [h]
    · simp [h]
  · show T_X7_reviewsOfProposal_4 N (L_X7_reviewsOfProposal_4 N n) _ _ _ _ = _
    unfold T_X7_reviewsOfProposal_4
    rw [if_pos (show (12 : Int32) ≤ nI 12 by decide)]
theorem c_isDeclared (N : Nat) {r p : Nat} (hr : r < 12) (hp : p < 32) (m : Mem) (h : 0 ≤ (gI m 5 r).toInt) : f_X7_isDeclared N (nI r) (nI p) m = some (if (vN (gI m 5 r)).testBit p then 1 else 0, m) := by
  unfold f_X7_isDeclared
  rw [gd_t (inb_nI hr (by omega)), nI_clamp (by omega)]
  rw [show gI m 5 r = nI (vN (gI m 5 r)) from vN_eq h, sh_bit hp, vN_nI (vN_lt _)]
  simp only [if10]
  by_cases hb : (vN (gI m 5 r)).testBit p = true
  · rw [if_neg (by simp [hb]), if_pos hb]
  · rw [if_pos hb, if_neg hb]
theorem m_has (N : Nat) {k j : Nat} (hj : j < 32) (m : Mem) : f_X10_has N (nI k) (nI j) m = some (if k.testBit j then 1 else 0, m) := by
  unfold f_X10_has
  rw [sh_bit hj]
  simp only [if10']
  split <;> rfl
theorem m_has' (N : Nat) {x : Int32} {j : Nat} (hx : 0 ≤ x.toInt) (hj : j < 32) (m : Mem) : f_X10_has N x (nI j) m = some (if (vN x).testBit j then 1 else 0, m) := by
  have := m_has N (k := vN x) hj m
  rw [← vN_eq hx] at this
  exact this
theorem m_score (N : Nat) {r p : Nat} (hr : r < 12) (hp : p < 16) (m : Mem) : f_X10_score N (nI r) (nI p) m = some (gI m 98 (26 + (16 * r + p)), m) := by
  unfold f_X10_score
  rw [show ((26 : Int32) + (16 : Int32) * nI r) + nI p = nI (26 + (16 * r + p)) by rw [show (16 : Int32) = nI 16 from rfl, show (26 : Int32) = nI 26 from rfl, nI_mul, nI_add, nI_add, Nat.add_assoc], gd_t (inb_nI (by omega) (by omega)), nI_clamp (by omega)]
theorem m_isReview (N : Nat) {r p : Nat} (hr : r < 12) (hp : p < 32) (m : Mem) (h : 0 ≤ (gI m 98 (14 + r)).toInt) : f_X10_isReview N (nI r) (nI p) m = some (if (vN (gI m 98 (14 + r))).testBit p then 1 else 0, m) := by
  unfold f_X10_isReview
  rw [show (14 : Int32) + nI r = nI (14 + r) from nI_add 14 r, gd_t (inb_nI (by omega) (by omega)), nI_clamp (by omega), b2_of (m_has' N h hp m), gd_t isB_if]
theorem m_reviewsOf {N : Nat} (hN : 12 < N) {p R : Nat} (hp : p < 32) (hR : R ≤ 12) (m : Mem) (h1 : gI m 96 1 = nI R) (h : ∀ r, r < 12 → 0 ≤ (gI m 98 (14 + r)).toInt) : f_X10_reviewsOf N (nI p) m = some (nI (cnt (fun r => (vN (gI m 98 (14 + r))).testBit p) R), m) := by
  unfold f_X10_reviewsOf
  refine (l2_of (y := nI (cnt (fun r => (vN (gI m 98 (14 + r))).testBit p) R)) (m := m) ?_).trans rfl
  refine loop_fn (fun n i => L_X10_reviewsOf_4 N n (nI p) (nI (cnt (fun r => (vN (gI m 98 (14 + r))).testBit p) i)) (nI i) m) R _ (fun n i hi => ?_) (fun n => ?_) R N 0 (by omega) (by omega)
  · show T_X10_reviewsOf_4 N (L_X10_reviewsOf_4 N n) _ _ _ _ = L_X10_reviewsOf_4 N n _ _ _ _
    unfold T_X10_reviewsOf_4
    rw [h1, if_neg (nI_ge hi (by omega)), b2_of (m_isReview N (by omega) hp m (h i (by omega))), nI_1, nI_1, show (0 : Int32) = nI 0 from rfl, nI_add]
    simp only [cnt]
    by_cases hb : (vN (gI m 98 (14 + i))).testBit p = true
    · rw [if_neg (by rw [if_pos hb]; decide), if_pos hb]
    · rw [if_pos (by rw [if_neg hb]), if_neg hb]
  · show T_X10_reviewsOf_4 N (L_X10_reviewsOf_4 N n) _ _ _ _ = _
    unfold T_X10_reviewsOf_4
    rw [h1, if_pos (nI_le (Nat.le_refl _) (by omega))]
