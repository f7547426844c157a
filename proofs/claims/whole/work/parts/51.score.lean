/-! SCORES as numbers -/
def sv (m : Mem) (r p : Nat) : Nat := vN (gI m 98 (26 + (16 * r + p)))
theorem Rel.sv_c {m : Mem} (h : Rel m) {r p : Nat} (hr : r < 12) (hp : p < 16) : gI m 98 (26 + (16 * r + p)) = nI (sv m r p) ∧ sv m r p ≤ 100 ∧ (gI m 4 (16 * r + p) ≤ 0 ↔ sv m r p = 0) ∧ (¬ sv m r p = 0 → gI m 4 (16 * r + p) = nI (sv m r p)) := by
  have h0 := h.b.2.2.2.1 (26 + (16 * r + p)) (by omega)
  have hv := h.scv hr hp
  have hb := h.scb hr hp
  have e : gI m 98 (26 + (16 * r + p)) = nI (sv m r p) := vN_eq h0
  by_cases hc : 0 < gI m 4 (16 * r + p)
  · rw [if_pos hc] at hv
    have hs : sv m r p = (gI m 4 (16 * r + p)).toInt.toNat := by
      unfold sv vN
      rw [hv]
    rw [Int32.lt_iff_toInt_lt] at hc
    simp at hc
    refine ⟨e, by omega, ⟨fun hle => ?_, fun hz => ?_⟩, fun _ => by rw [← hv]; exact e⟩
    · rw [Int32.le_iff_toInt_le] at hle
      simp at hle
      omega
    · omega
  · rw [if_neg hc] at hv
    have hs : sv m r p = 0 := by
      unfold sv vN
      rw [hv]
      rfl
    rw [Int32.lt_iff_toInt_lt] at hc
    simp at hc
    refine ⟨e, by omega, ⟨fun _ => hs, fun _ => ?_⟩, fun hn => absurd hs hn⟩
    rw [Int32.le_iff_toInt_le]
    simp
    omega
theorem Rel.sv0 {m : Mem} (h : Rel m) {r p : Nat} (hr : r < 12) (hp : p < 16) (hz : nR m ≤ r ∨ nQ m ≤ p) : sv m r p = 0 := ((h.sv_c hr hp).2.2.1).mp (by rw [h.sc0 hr hp hz]; decide)
theorem m_sv (N : Nat) {m : Mem} (h : RelB m) {r p : Nat} (hr : r < 12) (hp : p < 16) : f_X10_score N (nI r) (nI p) m = some (nI (sv m r p), m) := by
  rw [m_score N hr hp, show gI m 98 (26 + (16 * r + p)) = nI (sv m r p) from vN_eq (h.2.2.2.1 _ (by omega))]
theorem m_isScored (N : Nat) {m : Mem} (h : RelB m) {r p : Nat} (hr : r < 12) (hp : p < 16) : f_X10_isScored N (nI r) (nI p) m = some (if sv m r p = 0 then 0 else 1, m) := by
  have hs : sv m r p < 2 ^ 31 := vN_lt _
  unfold f_X10_isScored
  rw [b2_of (m_sv N h hr hp)]
  by_cases hz : sv m r p = 0
  · rw [hz, if_pos (show nI 0 ≤ 0 by decide), if_pos rfl]
  · rw [if_neg (nI_nle (by omega) (by omega)), if_neg hz]
theorem c_hasSc (N : Nat) {m : Mem} (h : Rel m) {r p : Nat} (hr : r < 12) (hp : p < 16) : f_X7_hasScore N (nI r) (nI p) m = some (if sv m r p = 0 then 0 else 1, m) := by
  rw [c_hasScore N hr hp]
  by_cases hz : sv m r p = 0
  · rw [if_pos ((h.sv_c hr hp).2.2.1.mpr hz), if_pos hz]
  · rw [if_neg (fun hh => hz ((h.sv_c hr hp).2.2.1.mp hh)), if_neg hz]
theorem c_sv (N : Nat) {m : Mem} (h : Rel m) {r p : Nat} (hr : r < 12) (hp : p < 16) (hz : ¬ sv m r p = 0) : f_X7_scoreAt N (nI r) (nI p) m = some (nI (sv m r p), m) := by
  rw [c_scoreAt N hr hp, (h.sv_c hr hp).2.2.2 hz]
theorem m_scoresOf {N : Nat} (hN : 12 < N) {m : Mem} (h : RelB m) {p : Nat} (hp : p < 16) : f_X10_scoresOf N (nI p) m = some (nI (cnt (fun r => decide (¬ sv m r p = 0)) (nR m)), m) := by
  have hR := h.R.2
  unfold f_X10_scoresOf
  refine (l2_of (y := nI (cnt (fun r => decide (¬ sv m r p = 0)) (nR m))) (m := m) ?_).trans rfl
  refine loop_fn (fun n i => L_X10_scoresOf_4 N n (nI p) (nI (cnt (fun r => decide (¬ sv m r p = 0)) i)) (nI i) m) (nR m) _ (fun n i hi => ?_) (fun n => ?_) (nR m) N 0 (by omega) (by omega)
  · show T_X10_scoresOf_4 N (L_X10_scoresOf_4 N n) _ _ _ _ = L_X10_scoresOf_4 N n _ _ _ _
    unfold T_X10_scoresOf_4
    rw [h.R.1, if_neg (nI_ge hi (by omega)), b2_of (m_isScored N h (by omega) hp), nI_1, nI_1, show nI (cnt (fun r => decide (¬ sv m r p = 0)) i) + (0 : Int32) = nI (cnt (fun r => decide (¬ sv m r p = 0)) i) from nI_add _ 0]
    simp only [cnt]
    by_cases hz : sv m i p = 0
    · simp [hz]
    · simp [hz]
  · show T_X10_scoresOf_4 N (L_X10_scoresOf_4 N n) _ _ _ _ = _
    unfold T_X10_scoresOf_4
    rw [h.R.1, if_pos (nI_le (Nat.le_refl _) (by omega))]
