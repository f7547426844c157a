/-! CHECKS of the arguments; the setup's rows -/
def inR (v : Int32) (n : Nat) : Bool := decide (0 ≤ v.toInt ∧ v.toInt < n)
theorem inR_iff {v : Int32} {n : Nat} : inR v n = true ↔ 0 ≤ v.toInt ∧ v.toInt < n := decide_eq_true_iff
theorem inR_nI {v : Int32} {n : Nat} (h : inR v n = true) : ∃ j, j < n ∧ v = nI j := ⟨v.toInt.toNat, by have := (inR_iff.mp h); omega, i32_of (by have := (inR_iff.mp h); omega)⟩
theorem nI_inR {j n : Nat} (hj : j < n) (hn : n < 2 ^ 31) : inR (nI j) n = true := by
  rw [inR_iff, nI_toInt (by omega)]
  omega
theorem rng_c {α : Type} {v : Int32} {n : Nat} (hn : n < 2 ^ 31) (A B : α) : (if v < 0 then A else if v < nI n then B else A) = if inR v n = true then B else A := by
  by_cases h : inR v n = true
  · rw [if_pos h]
    obtain ⟨j, hj, rfl⟩ := inR_nI h
    rw [if_neg (nI_pos (by omega)), if_pos (nI_lt hj hn)]
  · rw [if_neg h]
    by_cases h1 : v < 0
    · rw [if_pos h1]
    · rw [if_neg h1]
      by_cases h2 : v < nI n
      · exfalso
        apply h
        rw [Int32.lt_iff_toInt_lt] at h1 h2
        rw [nI_toInt hn] at h2
        exact inR_iff.mpr ⟨by simp at h1; omega, h2⟩
      · rw [if_neg h2]
theorem rng_m (N : Nat) {v : Int32} {n : Nat} (hn : n < 2 ^ 31) (m : Mem) : f_X10_in N v 0 (nI n - 1) m = some (if inR v n = true then 1 else 0, m) := by
  rw [in_eq]
  congr 2
  have e : (nI n - 1).toInt = (n : Int) - 1 := by
    cases n with
    | zero => decide
    | succ n =>
      rw [nI_pred, nI_toInt (by omega)]
      omega
  by_cases h : inR v n = true
  · rw [if_pos h]
    obtain ⟨j, hj, rfl⟩ := inR_nI h
    rw [if_neg (nI_pos (by omega)), if_neg]
    rw [Int32.lt_iff_toInt_lt, e, nI_toInt (by omega)]
    omega
  · rw [if_neg h]
    by_cases h1 : v < 0
    · rw [if_pos h1]
    · rw [if_neg h1, if_pos]
      rw [Int32.lt_iff_toInt_lt] at h1 ⊢
      rw [e]
      simp at h1
      apply Classical.byContradiction
      intro h2
      exact h (inR_iff.mpr ⟨h1, by omega⟩)
theorem st_k {s : Nat} (h : s = 71 ∨ s = 83) : (kd s == 6) = true := by
  rcases h with rfl | rfl <;> decide
theorem st_tab : ∀ k, k < 14 → 3 ≤ k → (rt 71 k = 71 + (k - 2) ∧ rt 83 k = 83 + (k - 2) ∧ kd (71 + (k - 2)) = 12 ∧ kd (83 + (k - 2)) = 12 ∧ ln (71 + (k - 2)) = (if k = 3 then 4 else if k ≤ 8 then 12 else 16) ∧ ln (83 + (k - 2)) = (if k = 3 then 4 else if k ≤ 8 then 12 else 16)) := by decide
theorem st_rt {s : Nat} (h : s = 71 ∨ s = 83) {k : Nat} (h1 : 3 ≤ k) (h2 : k < 14) : rt s k = s + (k - 2) := by
  rcases h with rfl | rfl
  · exact (st_tab k h2 h1).1
  · exact (st_tab k h2 h1).2.1
theorem st_ok {s : Nat} (h : s = 71 ∨ s = 83) {k j : Nat} (h1 : 3 ≤ k) (h2 : k < 14) (hj : j < (if k = 3 then 4 else if k ≤ 8 then 12 else 16)) : okA 12 (rt s k) (nI j) = true := by
  have hb : (if k = 3 then 4 else if k ≤ 8 then 12 else 16) < 2 ^ 31 := by
    by_cases h3 : k = 3
    · rw [if_pos h3]; decide
    · rw [if_neg h3]
      by_cases h4 : k ≤ 8
      · rw [if_pos h4]; decide
      · rw [if_neg h4]; decide
  obtain ⟨t1, t2, t3, t4, t5, t6⟩ := st_tab k h2 h1
  unfold okA
  rcases h with rfl | rfl
  · rw [t1, t3, t5, inb_nI hj hb]
    rfl
  · rw [t2, t4, t6, inb_nI hj hb]
    rfl
/-- the part of the relation that most methods read: not the class's own state -/
def RelB (m : Mem) : Prop := RefOK m ∧ ToldOK (gI m 96) ∧ SetupAt m (gR m 0 7) ∧ (∀ i, i < 218 → 0 ≤ (gI m 98 i).toInt) ∧ (∀ r, r < 12 → vN (gI m 98 (2 + r)) < 65536 ∧ vN (gI m 98 (14 + r)) < 65536)
theorem Rel.st {m : Mem} (h : Rel m) : RelT (gI m 96) (gI m 3 2) (gI m 3 3) (gI m 4) (gI m 5) (gI m 98) := by
  have h7 := h.2.2.2.2.2.2.1
  unfold StateAt at h7
  rw [show (fun i => gI m 98 (0 + i)) = gI m 98 from funext (fun i => by rw [Nat.zero_add])] at h7
  exact h7
theorem Rel.b {m : Mem} (h : Rel m) : RelB m := ⟨h.1, h.2.2.2.2.1, h.2.2.2.2.2.1, h.st.1, fun r hr => ⟨(h.st.2.2.2.2.2.1 r hr).2.1, h.st.2.2.2.2.2.2.1 r hr⟩⟩
theorem RelB.keep {m m' : Mem} (h : RelB m) (e96 : gI m' 96 = gI m 96) (e98 : gI m' 98 = gI m 98) (e : ∀ k, 71 ≤ k → k ≤ 94 → gI m' k = gI m k) (e7 : gR m' 0 7 = gR m 0 7) (e8 : gR m' 0 8 = gR m 0 8) : RelB m' := by
  obtain ⟨h1, h2, h3, h4, h5⟩ := h
  have hs := h1.s
  refine ⟨?_, by rw [e96]; exact h2, ?_, by rw [e98]; exact h4, by rw [e98]; exact h5⟩
  · unfold RefOK
    rw [e7, e8]
    exact h1
  · rw [e7]
    exact h3.keep e96 (fun k k1 k2 => e k (by omega) (by omega))
/-- the numbers of panels, reviewers, proposals -/
def nP (m : Mem) : Nat := vN (gI m 96 0)
def nR (m : Mem) : Nat := vN (gI m 96 1)
def nQ (m : Mem) : Nat := vN (gI m 96 2)
theorem RelB.s {m : Mem} (h : RelB m) : gR m 0 7 = 71 ∨ gR m 0 7 = 83 := h.1.s
theorem RelB.P {m : Mem} (h : RelB m) : gI m 96 0 = nI (nP m) ∧ nP m ≤ 4 := ⟨vN_eq (h.2.1.1 0 (by omega)), h.2.1.2.1⟩
theorem RelB.R {m : Mem} (h : RelB m) : gI m 96 1 = nI (nR m) ∧ nR m ≤ 12 := ⟨vN_eq (h.2.1.1 1 (by omega)), h.2.1.2.2.1⟩
theorem RelB.Q {m : Mem} (h : RelB m) : gI m 96 2 = nI (nQ m) ∧ nQ m ≤ 16 := ⟨vN_eq (h.2.1.1 2 (by omega)), h.2.1.2.2.2.1⟩
theorem RelB.cP {m : Mem} (h : RelB m) : gI m (gR m 0 7) 0 = nI (nP m) := h.2.2.1.1.trans h.P.1
theorem RelB.cR {m : Mem} (h : RelB m) : gI m (gR m 0 7) 1 = nI (nR m) := h.2.2.1.2.1.trans h.R.1
theorem RelB.cQ {m : Mem} (h : RelB m) : gI m (gR m 0 7) 2 = nI (nQ m) := h.2.2.1.2.2.1.trans h.Q.1
theorem c_checkReviewer (N : Nat) {m : Mem} (h : RelB m) (v : Int32) : f_X9_checkReviewer N v m = if inR v (nR m) = true then some (.inl (), m) else some (.inr 2, m) := by
  unfold f_X9_checkReviewer B_X9_checkReviewer_15
  rw [gd_t (st_k h.s), h.cR]
  exact rng_c (by have := h.R.2; omega) _ _
theorem c_checkProposal (N : Nat) {m : Mem} (h : RelB m) (v : Int32) : f_X9_checkProposal N v m = if inR v (nQ m) = true then some (.inl (), m) else some (.inr 2, m) := by
  unfold f_X9_checkProposal B_X9_checkProposal_15
  rw [gd_t (st_k h.s), h.cQ]
  exact rng_c (by have := h.Q.2; omega) _ _
theorem c_checkPanel (N : Nat) {m : Mem} (h : RelB m) (v : Int32) : f_X9_checkPanel N v m = if inR v (nP m) = true then some (.inl (), m) else some (.inr 2, m) := by
  unfold f_X9_checkPanel B_X9_checkPanel_15
  rw [gd_t (st_k h.s), h.cP]
  exact rng_c (by have := h.P.2; omega) _ _
theorem m_isReviewer (N : Nat) {m : Mem} (h : RelB m) (v : Int32) : f_X10_isReviewer N v m = some (if inR v (nR m) = true then 1 else 0, m) := by
  unfold f_X10_isReviewer
  rw [h.R.1, b2_of (rng_m N (by have := h.R.2; omega) m), gd_t isB_if]
theorem m_isProposal (N : Nat) {m : Mem} (h : RelB m) (v : Int32) : f_X10_isProposal N v m = some (if inR v (nQ m) = true then 1 else 0, m) := by
  unfold f_X10_isProposal
  rw [h.Q.1, b2_of (rng_m N (by have := h.Q.2; omega) m), gd_t isB_if]
theorem m_isPanel (N : Nat) {m : Mem} (h : RelB m) (v : Int32) : f_X10_isPanel N v m = some (if inR v (nP m) = true then 1 else 0, m) := by
  unfold f_X10_isPanel
  rw [h.P.1, b2_of (rng_m N (by have := h.P.2; omega) m), gd_t isB_if]
theorem c_pair_ok (N : Nat) {m : Mem} (h : RelB m) {a b : Int32} (ha : inR a (nR m) = true) (hb : inR b (nQ m) = true) : f_X9_checkPair N a b m = some (.inl (), m) := by
  unfold f_X9_checkPair
  rw [x1_of (by rw [c_checkReviewer N h, if_pos ha]), x1_of (by rw [c_checkProposal N h, if_pos hb])]
theorem c_pair_no (N : Nat) {m : Mem} (h : RelB m) {a b : Int32} (hab : ¬ (inR a (nR m) = true ∧ inR b (nQ m) = true)) : f_X9_checkPair N a b m = some (.inr 2, m) := by
  unfold f_X9_checkPair
  by_cases ha : inR a (nR m) = true
  · rw [x1_of (by rw [c_checkReviewer N h, if_pos ha]), x1_th (by rw [c_checkProposal N h, if_neg (fun hb => hab ⟨ha, hb⟩)])]
  · rw [x1_th (by rw [c_checkReviewer N h, if_neg ha])]
theorem m_both_ok (N : Nat) {m : Mem} (h : RelB m) {a b : Int32} (ha : inR a (nR m) = true) (hb : inR b (nQ m) = true) : f_X10_areBoth N a b m = some (1, sI m 95 0 0) := by
  unfold f_X10_areBoth
  rw [b2_of (m_isReviewer N h a), if_pos ha, if_neg (by decide), b2_of (m_isProposal N h b), if_pos hb, if_neg (by decide)]
  rfl
theorem m_both_no (N : Nat) {m : Mem} (h : RelB m) {a b : Int32} (hab : ¬ (inR a (nR m) = true ∧ inR b (nQ m) = true)) : f_X10_areBoth N a b m = some (0, sI m 95 0 1) := by
  unfold f_X10_areBoth
  by_cases ha : inR a (nR m) = true
  · rw [b2_of (m_isReviewer N h a), if_pos ha, if_neg (by decide), b2_of (m_isProposal N h b), if_neg (fun hb => hab ⟨ha, hb⟩), if_pos rfl]
    rfl
  · rw [b2_of (m_isReviewer N h a), if_neg ha, if_pos rfl]
    rfl
