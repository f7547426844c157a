/-! EASY CALLS -/
theorem op_errorCode (N : Nat) : Op_errorCode N := by
  intro m hR
  refine ⟨gI m 1 2, m, sI m 95 0 0, rfl, ?_, ?_⟩
  · unfold f_X10_errorCode
    rw [wr_eq, gI_sI, if_neg (by decide), hR.2.2.2.1.1]
  · exact hR.core ⟨fun k hk => by funext j; rw [gI_sI, if_neg (by omega)], fun j hj => by rw [gI_sI, if_neg (by omega)], fun j hj => by rw [gI_sI, if_neg (by omega)], rfl, rfl, id⟩
theorem op_errorPosition (N : Nat) : Op_errorPosition N := by
  intro m hR
  refine ⟨gI m 1 3, m, sI m 95 0 0, rfl, ?_, ?_⟩
  · unfold f_X10_errorPosition
    rw [wr_eq, gI_sI, if_neg (by decide), hR.2.2.2.1.2]
  · exact hR.core ⟨fun k hk => by funext j; rw [gI_sI, if_neg (by omega)], fun j hj => by rw [gI_sI, if_neg (by omega)], fun j hj => by rw [gI_sI, if_neg (by omega)], rfl, rfl, id⟩
/-- a write that the relation does not see -/
theorem Core.sI95 {m : Mem} {j : Nat} {v : Int32} (h : j ≠ 5 ∧ j ≠ 7 ∧ j ≠ 9 ∧ j ≠ 10) : Core m (sI m 95 j v) :=
  ⟨fun k hk => by funext b; rw [gI_sI, if_neg (by omega)], fun b hb => by rw [gI_sI, if_neg (by omega)], fun b hb => by rw [gI_sI, if_neg (by omega)], rfl, rfl, id⟩
theorem Core.sJ' {m : Mem} {k j : Nat} {v : Int64} : Core m (sJ m k j v) := ⟨fun _ _ => rfl, fun _ _ => rfl, fun _ _ => rfl, rfl, rfl, id⟩
theorem Core.sD' {m : Mem} {k j : Nat} {v : UInt64} : Core m (sD m k j v) := ⟨fun _ _ => rfl, fun _ _ => rfl, fun _ _ => rfl, rfl, rfl, id⟩
/-- a write into a row that the relation does not see -/
theorem Core.sIs {m : Mem} {k j : Nat} {v : Int32} (h : (38 ≤ k ∧ k ≤ 70) ∨ k = 97 ∨ (101 ≤ k ∧ k ≤ 107)) : Core m (sI m k j v) :=
  ⟨fun q hq => by funext b; rw [gI_sI, if_neg (by omega)], fun b hb => by rw [gI_sI, if_neg (by omega)], fun b hb => by rw [gI_sI, if_neg (by omega)], rfl, rfl, id⟩
/-- the text's length is written on both sides -/
theorem Rel.setLen {m : Mem} {n : Nat} (h : Rel m) (hn : n ≤ vN (gI m 1 1)) (v : Int32) : Rel (sI (sI (sI m 1 1 (nI n)) 95 0 v) 95 7 (nI n)) := by
  obtain ⟨h1, h2, ⟨len, a1, a2, a3, a4⟩, h4, h5, h6, h7, h8⟩ := h
  rw [a2, vN_nI (by omega)] at hn
  have e : ∀ k, k ≠ 1 → k ≠ 95 → gI (sI (sI (sI m 1 1 (nI n)) 95 0 v) 95 7 (nI n)) k = gI m k := by
    intro k k1 k2
    funext j
    rw [gI_sI, if_neg (by omega), gI_sI, if_neg (by omega), gI_sI, if_neg (by omega)]
  have e1 : ∀ j, j ≠ 1 → gI (sI (sI (sI m 1 1 (nI n)) 95 0 v) 95 7 (nI n)) 1 j = gI m 1 j := by
    intro j hj
    rw [gI_sI, if_neg (by omega), gI_sI, if_neg (by omega), gI_sI, if_neg (by omega)]
  have e2 : ∀ j, j ≠ 0 → j ≠ 7 → gI (sI (sI (sI m 1 1 (nI n)) 95 0 v) 95 7 (nI n)) 95 j = gI m 95 j := by
    intro j hj hj2
    rw [gI_sI, if_neg (by omega), gI_sI, if_neg (by omega), gI_sI, if_neg (by omega)]
  refine ⟨h1, h2, ⟨n, by omega, ?_, ?_, fun i hi => ?_⟩, ?_, ?_, ?_, ?_, ?_⟩
  · rw [gI_sI, if_neg (by decide), gI_sI, if_neg (by decide), gI_sI, if_pos ⟨rfl, rfl⟩]
  · rw [gI_sI, if_pos ⟨rfl, rfl⟩]
  · rw [e 100 (by omega) (by omega), e 2 (by omega) (by omega)]
    exact a4 i (by omega)
  · unfold ErrOK
    rw [e1 2 (by omega), e1 3 (by omega), e2 9 (by omega) (by omega), e2 10 (by omega) (by omega)]
    exact h4
  · rw [e 96 (by omega) (by omega)]
    exact h5
  · have hs := h1.s
    unfold SetupAt
    show SetupOK _ (gI _ (gR m 0 7)) (gI _ (gR m 0 7 + 1)) (gI _ (gR m 0 7 + 2)) (gI _ (gR m 0 7 + 3)) (gI _ (gR m 0 7 + 4)) (gI _ (gR m 0 7 + 5)) (gI _ (gR m 0 7 + 6)) (gI _ (gR m 0 7 + 7)) (gI _ (gR m 0 7 + 8)) (gI _ (gR m 0 7 + 9)) (gI _ (gR m 0 7 + 10)) (gI _ (gR m 0 7 + 11))
    rw [e 96 (by omega) (by omega), e (gR m 0 7) (by omega) (by omega), e (gR m 0 7 + 1) (by omega) (by omega), e (gR m 0 7 + 2) (by omega) (by omega), e (gR m 0 7 + 3) (by omega) (by omega), e (gR m 0 7 + 4) (by omega) (by omega), e (gR m 0 7 + 5) (by omega) (by omega), e (gR m 0 7 + 6) (by omega) (by omega), e (gR m 0 7 + 7) (by omega) (by omega), e (gR m 0 7 + 8) (by omega) (by omega), e (gR m 0 7 + 9) (by omega) (by omega), e (gR m 0 7 + 10) (by omega) (by omega), e (gR m 0 7 + 11) (by omega) (by omega)]
    exact h6
  · unfold StateAt
    rw [e 96 (by omega) (by omega), e 3 (by omega) (by omega), e 4 (by omega) (by omega), e 5 (by omega) (by omega), e 98 (by omega) (by omega)]
    exact h7
  · obtain ⟨hh, nx, b1, b2, b3, b4, b5, b6⟩ := h8
    refine ⟨hh, nx, b1, b2, by rw [e 6 (by omega) (by omega)]; exact b3, by rw [e2 5 (by omega) (by omega)]; exact b4, by rw [e 6 (by omega) (by omega)]; exact b5, fun i hi => ?_⟩
    have := b6 i hi
    unfold StateAt at this ⊢
    rw [e 96 (by omega) (by omega), e (8 + 3 * ((nx + 9 - i) % 10)) (by omega) (by omega), e (8 + 3 * ((nx + 9 - i) % 10) + 1) (by omega) (by omega), e (8 + 3 * ((nx + 9 - i) % 10) + 2) (by omega) (by omega), e 99 (by omega) (by omega)]
    exact this
