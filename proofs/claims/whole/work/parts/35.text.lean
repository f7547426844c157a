/-! TRUNCATE, APPEND -/
theorem TextOK.keep {m m' : Mem} (h : TextOK m) (e2 : gI m' 2 = gI m 2) (e100 : gI m' 100 = gI m 100) (e1 : gI m' 1 1 = gI m 1 1) (e95 : gI m' 95 7 = gI m 95 7) : TextOK m' := by
  obtain ⟨len, a1, a2, a3, a4⟩ := h
  exact ⟨len, a1, e1.trans a2, e95.trans a3, fun i hi => by rw [e100, e2]; exact a4 i hi⟩
theorem SetupAt.keep {m m' : Mem} {s : Nat} (h : SetupAt m s) (e96 : gI m' 96 = gI m 96) (e : ∀ k, s ≤ k → k ≤ s + 11 → gI m' k = gI m k) : SetupAt m' s := by
  unfold SetupAt
  rw [e96, e s (by omega) (by omega), e (s + 1) (by omega) (by omega), e (s + 2) (by omega) (by omega), e (s + 3) (by omega) (by omega), e (s + 4) (by omega) (by omega), e (s + 5) (by omega) (by omega), e (s + 6) (by omega) (by omega), e (s + 7) (by omega) (by omega), e (s + 8) (by omega) (by omega), e (s + 9) (by omega) (by omega), e (s + 10) (by omega) (by omega), e (s + 11) (by omega) (by omega)]
  exact h
theorem StateAt.keep {m m' : Mem} {k c o : Nat} (h : StateAt m k c o) (e96 : gI m' 96 = gI m 96) (e0 : gI m' k = gI m k) (e1 : gI m' (k + 1) = gI m (k + 1)) (e2 : gI m' (k + 2) = gI m (k + 2)) (ec : gI m' c = gI m c) : StateAt m' k c o := by
  unfold StateAt
  rw [e96, e0, e1, e2, ec]
  exact h
theorem HistOK.keep {m m' : Mem} (h : HistOK m) (e96 : gI m' 96 = gI m 96) (e99 : gI m' 99 = gI m 99) (e6 : gI m' 6 = gI m 6) (e95 : gI m' 95 5 = gI m 95 5) (e : ∀ k, 8 ≤ k → k ≤ 37 → gI m' k = gI m k) : HistOK m' := by
  obtain ⟨hh, nx, a1, a2, a3, a4, a5, a6⟩ := h
  exact ⟨hh, nx, a1, a2, by rw [e6]; exact a3, e95.trans a4, by rw [e6]; exact a5, fun i hi => (a6 i hi).keep e96 (e _ (by omega) (by omega)) (e _ (by omega) (by omega)) (e _ (by omega) (by omega)) e99⟩
/-- all but the text -/
theorem Rel.newText {m m' : Mem} (h : Rel m) (ht : TextOK m') (e : ∀ k, k ≠ 1 → k ≠ 2 → k ≠ 95 → k ≠ 100 → gI m' k = gI m k) (e1 : ∀ j, (j = 2 ∨ j = 3) → gI m' 1 j = gI m 1 j) (e95 : ∀ j, (j = 5 ∨ j = 9 ∨ j = 10) → gI m' 95 j = gI m 95 j) (er : ∀ k j, gR m' k j = gR m k j) : Rel m' := by
  obtain ⟨h1, h2, h3, h4, h5, h6, h7, h8⟩ := h
  have hs := h1.s
  have e96 := e 96 (by omega) (by omega) (by omega) (by omega)
  refine ⟨?_, ?_, ht, ?_, by rw [e96]; exact h5, ?_, h7.keep e96 (e 3 (by omega) (by omega) (by omega) (by omega)) (e 4 (by omega) (by omega) (by omega) (by omega)) (e 5 (by omega) (by omega) (by omega) (by omega)) (e 98 (by omega) (by omega) (by omega) (by omega)), h8.keep e96 (e 99 (by omega) (by omega) (by omega) (by omega)) (e 6 (by omega) (by omega) (by omega) (by omega)) (e95 5 (by omega)) (fun k k1 k2 => e k (by omega) (by omega) (by omega) (by omega))⟩
  · unfold RefOK
    rw [er, er]
    exact h1
  · unfold ChOK ChAt
    simp only [er]
    exact h2
  · unfold ErrOK
    rw [e1 2 (by omega), e1 3 (by omega), e95 9 (by omega), e95 10 (by omega)]
    exact h4
  · rw [er]
    exact h6.keep e96 (fun k k1 k2 => e k (by omega) (by omega) (by omega) (by omega))
theorem in_eq (N : Nat) (v a b : Int32) (m : Mem) : f_X10_in N v a b m = some (if v < a then 0 else if b < v then 0 else 1, m) := by
  unfold f_X10_in B_X10_in_14
  by_cases h1 : v < a
  · rw [if_pos h1, if_pos h1]
  · rw [if_neg h1, if_neg h1]
    by_cases h2 : b < v
    · rw [if_pos h2, if_pos h2]
    · rw [if_neg h2, if_neg h2]
theorem fails_eq (N : Nat) (v : Int32) (m : Mem) : f_X10_fails N v m = some (0, sI m 95 0 v) := rfl
theorem i32_lt {a b : Int32} : (¬ a ≤ b) ↔ b < a := by
  rw [Int32.le_iff_toInt_le, Int32.lt_iff_toInt_lt]
  omega
theorem op_truncate (N : Nat) : Op_truncate N := by
  intro m hR a
  obtain ⟨len, l1, l2, l3, l4⟩ := hR.2.2.1
  have e7 : gI (sI m 95 0 0) 95 7 = nI len := by rw [gI_sI, if_neg (by decide)]; exact l3
  by_cases h1 : a < 0
  · refine ⟨1, m, 0, sI (sI m 95 0 0) 95 0 1, ?_, ?_, ?_, fun h => absurd h (by decide), (hR.core (Core.sI95 (by omega))).core (Core.sI95 (by omega))⟩
    · unfold f_L_truncate f_X9_truncate B_X9_truncate_15
      rw [if_pos h1]
      rfl
    · unfold f_X10_truncate
      rw [wr_eq, in_eq, if_pos h1]
      rfl
    · rw [gI_sI, if_pos ⟨rfl, rfl⟩]
  · by_cases h2 : a ≤ nI len
    · have h3 : ¬ nI len < a := fun h => (i32_lt.mpr h) h2
      obtain ⟨j, hj, rfl⟩ : ∃ j : Nat, j ≤ len ∧ a = nI j := by
        obtain ⟨j, hj, e⟩ := nI_of h1
        subst e
        exact ⟨j, (nI_leI hj (by omega)).mp h2, rfl⟩
      refine ⟨0, sJ (sI m 1 1 (nI j)) 108 0 (nI j).toInt64, nI j, sI (sI (sJ (sI m 1 1 (nI j)) 108 0 (nI j).toInt64) 95 0 0) 95 7 (nI j), ?_, ?_, ?_, fun _ => ?_, ?_⟩
      · unfold f_L_truncate f_X9_truncate
        rw [if_neg h1, l2, if_pos h2]
        rfl
      · unfold f_X10_truncate
        rw [wr_eq, in_eq, if_neg h1, show gI (sI (sJ (sI m 1 1 (nI j)) 108 0 (nI j).toInt64) 95 0 0) 95 7 = nI len from l3, if_neg h3]
        rfl
      · rw [gI_sI, if_neg (by decide), gI_sI, if_pos ⟨rfl, rfl⟩]
      · rw [gJ_sI, gJ_sI, gJ_sJ, if_pos ⟨rfl, rfl⟩]
      · have h := hR.setLen (n := j) (by rw [l2, vN_nI (by omega)]; exact hj) 0
        exact h.core ⟨fun _ _ => rfl, fun _ _ => rfl, fun _ _ => rfl, rfl, rfl, id⟩
    · have h3 : nI len < a := i32_lt.mp h2
      refine ⟨1, m, 0, sI (sI m 95 0 0) 95 0 1, ?_, ?_, ?_, fun h => absurd h (by decide), (hR.core (Core.sI95 (by omega))).core (Core.sI95 (by omega))⟩
      · unfold f_L_truncate f_X9_truncate B_X9_truncate_15
        rw [if_neg h1, l2, if_neg h2]
        rfl
      · unfold f_X10_truncate
        rw [wr_eq, in_eq, if_neg h1, e7, if_pos h3]
        rfl
      · rw [gI_sI, if_pos ⟨rfl, rfl⟩]
