/-! ONE STEP that is remembered -/
theorem Rel.push {m C m1 K m2 : Mem} (hR : Rel m) (hC : RemE m C)
    (h1 : ∀ k j, k ≠ 3 → k ≠ 4 → k ≠ 5 → ¬ (k = 95 ∧ j = 0) → gI m1 k j = gI C k j) (r1 : ∀ k j, gR m1 k j = gR C k j)
    (hK : KepE m1 K) (h2 : ∀ k, k ≠ 98 → gI m2 k = gI K k) (r2 : ∀ k j, gR m2 k j = gR K k j) (hS : StateAt m2 3 98 0) : Rel m2 := by
  obtain ⟨nx, h, c1, c2, c3, c4, c5, c6, c7, c8, c9, c10, c11, c12, c13⟩ := hC
  obtain ⟨h', k1, k2, k3, k4, k5, k6, k7, k8⟩ := hK
  have hst := hR.st
  obtain ⟨g1, g2, g3, g4, g5, g6, _, g8⟩ := hR
  have hs := g1.s
  have er : ∀ k j, gR m2 k j = gR m k j := fun k j => by rw [r2, k7, r1, c12]
  have e : ∀ k j, k ≠ 3 → k ≠ 4 → k ≠ 5 → k ≠ 6 → k ≠ 98 → k ≠ 99 → k ≠ 8 + 3 * nx → k ≠ 9 + 3 * nx → k ≠ 10 + 3 * nx → ¬ (k = 95 ∧ (j = 0 ∨ j = 5)) → gI m2 k j = gI m k j := by
    intro k j q1 q2 q3 q4 q5 q6 q7 q8 q9 q10
    rw [h2 k q5, k6 k j q6 (by omega), h1 k j q1 q2 q3 (by omega), c11 k q4 q7 q8 q9]
  have ek : ∀ k, k ≠ 3 → k ≠ 4 → k ≠ 5 → k ≠ 6 → k ≠ 98 → k ≠ 99 → k ≠ 95 → k ≠ 8 + 3 * nx → k ≠ 9 + 3 * nx → k ≠ 10 + 3 * nx → gI m2 k = gI m k := by
    intro k q1 q2 q3 q4 q5 q6 q7 q8 q9 q10
    funext j
    exact e k j q1 q2 q3 q4 q5 q6 q8 q9 q10 (by omega)
  have e96 : gI m2 96 = gI m 96 := ek 96 (by omega) (by omega) (by omega) (by omega) (by omega) (by omega) (by omega) (by omega) (by omega) (by omega)
  refine ⟨?_, ?_, ?_, ?_, ?_, ?_, hS, ?_⟩
  · unfold RefOK
    rw [er, er]
    exact g1
  · unfold ChOK ChAt
    simp only [er]
    exact g2
  · exact g3.keep (ek 2 (by omega) (by omega) (by omega) (by omega) (by omega) (by omega) (by omega) (by omega) (by omega) (by omega)) (ek 100 (by omega) (by omega) (by omega) (by omega) (by omega) (by omega) (by omega) (by omega) (by omega) (by omega)) (e 1 1 (by omega) (by omega) (by omega) (by omega) (by omega) (by omega) (by omega) (by omega) (by omega) (by omega)) (e 95 7 (by omega) (by omega) (by omega) (by omega) (by omega) (by omega) (by omega) (by omega) (by omega) (by omega))
  · unfold ErrOK
    rw [e 1 2 (by omega) (by omega) (by omega) (by omega) (by omega) (by omega) (by omega) (by omega) (by omega) (by omega), e 1 3 (by omega) (by omega) (by omega) (by omega) (by omega) (by omega) (by omega) (by omega) (by omega) (by omega), e 95 9 (by omega) (by omega) (by omega) (by omega) (by omega) (by omega) (by omega) (by omega) (by omega) (by omega), e 95 10 (by omega) (by omega) (by omega) (by omega) (by omega) (by omega) (by omega) (by omega) (by omega) (by omega)]
    exact g4
  · rw [e96]
    exact g5
  · rw [er]
    exact g6.keep e96 (fun k q1 q2 => ek k (by omega) (by omega) (by omega) (by omega) (by omega) (by omega) (by omega) (by omega) (by omega) (by omega))
  · obtain ⟨h0, nx0, b1, b2, b3, b4, b5, b6⟩ := g8
    have eh : h0 = h := (nI_eq (by omega) (by omega)).mp (b3.symm.trans c4)
    have en : nx0 = nx := (nI_eq (by omega) (by omega)).mp (b5.symm.trans c3)
    subst eh en
    have ehk : h' = h0 := by
      have : gI m1 95 5 = gI m 95 5 := by rw [h1 95 5 (by omega) (by omega) (by omega) (by omega), c11 95 (by omega) (by omega) (by omega) (by omega)]
      rw [this, b4] at k2
      exact ((nI_eq (by omega) (by omega)).mp k2).symm
    subst ehk
    have e98 : gI m1 98 = gI m 98 := by
      funext j
      rw [h1 98 j (by omega) (by omega) (by omega) (by omega), c11 98 (by omega) (by omega) (by omega) (by omega)]
    have e99 : gI m1 99 = gI m 99 := by
      funext j
      rw [h1 99 j (by omega) (by omega) (by omega) (by omega), c11 99 (by omega) (by omega) (by omega) (by omega)]
    have hist : ∀ k j, 6 ≤ k → k ≤ 37 → gI m2 k j = gI C k j := by
      intro k j q1 q2
      rw [h2 k (by omega), k6 k j (by omega) (by omega), h1 k j (by omega) (by omega) (by omega) (by omega)]
    refine ⟨if h' = 10 then 10 else h' + 1, (nx0 + 1) % 10, by split <;> omega, by omega, by rw [hist 6 2 (by omega) (by omega)]; exact c6, by rw [h2 95 (by omega)]; exact k3, by rw [hist 6 1 (by omega) (by omega)]; exact c5, fun i hi => ?_⟩
    unfold StateAt
    rw [e96]
    by_cases hi0 : i = 0
    · subst hi0
      rw [show ((nx0 + 1) % 10 + 9 - 0) % 10 = nx0 by omega, show (if h' = 10 then 10 else h' + 1) - 1 - 0 = (if h' = 10 then 9 else h') by split <;> omega]
      refine hst.ext ?_ ?_ ?_ ?_ ?_
      · rw [hist _ _ (by omega) (by omega)]
        exact c7
      · rw [hist _ _ (by omega) (by omega)]
        exact c8
      · intro j hj
        rw [hist _ _ (by omega) (by omega), show 8 + 3 * nx0 + 1 = 9 + 3 * nx0 by omega]
        exact c9 j hj
      · intro j hj
        rw [hist _ _ (by omega) (by omega), show 8 + 3 * nx0 + 2 = 10 + 3 * nx0 by omega]
        exact c10 j hj
      · intro j hj
        rw [h2 99 (by omega), k4 j hj, e98]
    · have hi2 : i < 10 ∧ i ≤ h' := by
        by_cases h10 : h' = 10
        · rw [if_pos h10] at hi
          omega
        · rw [if_neg h10] at hi
          omega
      have old := b6 (i - 1) (by omega)
      unfold StateAt at old
      rw [show ((nx0 + 1) % 10 + 9 - i) % 10 = (nx0 + 9 - (i - 1)) % 10 by omega]
      generalize hq : (nx0 + 9 - (i - 1)) % 10 = q at old
      have hqn : q ≠ nx0 := by omega
      have hq10 : q < 10 := by omega
      have eC : ∀ k j, 8 + 3 * q ≤ k → k ≤ 8 + 3 * q + 2 → gI m2 k j = gI m k j := by
        intro k j q1 q2
        rw [hist k j (by omega) (by omega), c11 k (by omega) (by omega) (by omega) (by omega)]
      refine old.ext (eC _ _ (by omega) (by omega)) (eC _ _ (by omega) (by omega)) (fun j hj => eC _ _ (by omega) (by omega)) (fun j hj => eC _ _ (by omega) (by omega)) (fun j hj => ?_)
      show gI m2 99 _ = gI m 99 _
      rw [h2 99 (by omega)]
      by_cases h10 : h' = 10
      · rw [if_pos h10, k5 _ (by rw [if_pos h10]; omega), if_pos h10, e99]
        congr 1
        omega
      · rw [if_neg h10, k5 _ (by rw [if_neg h10]; omega), if_neg h10, e99]
        congr 1
        omega
theorem Rel.hist {m : Mem} (h : Rel m) : HistOK m := h.2.2.2.2.2.2.2
theorem Rel.past {m : Mem} (h : Rel m) : ∃ n, n ≤ 10 ∧ gI m 95 5 = nI n := by
  obtain ⟨n, _, h1, _, _, h4, _⟩ := h.hist
  exact ⟨n, h1, h4⟩
theorem RemE.k {m C : Mem} (h : RemE m C) {k : Nat} (h1 : ¬ (6 ≤ k ∧ k ≤ 37)) : gI C k = gI m k := by
  obtain ⟨nx, hh, c1, c2, c3, c4, c5, c6, c7, c8, c9, c10, c11, c12, c13⟩ := h
  exact c11 k (by omega) (by omega) (by omega) (by omega)
theorem RemE.r {m C : Mem} (h : RemE m C) (k j : Nat) : gR C k j = gR m k j := by
  obtain ⟨nx, hh, c1, c2, c3, c4, c5, c6, c7, c8, c9, c10, c11, c12, c13⟩ := h
  exact c12 k j
theorem KepE.k {m K : Mem} (h : KepE m K) {k j : Nat} (h1 : k ≠ 99) (h2 : ¬ (k = 95 ∧ j = 5)) : gI K k j = gI m k j := by
  obtain ⟨hh, k1, k2, k3, k4, k5, k6, k7, k8⟩ := h
  exact k6 k j h1 h2
theorem KepE.r {m K : Mem} (h : KepE m K) (k j : Nat) : gR K k j = gR m k j := by
  obtain ⟨hh, k1, k2, k3, k4, k5, k6, k7, k8⟩ := h
  exact k7 k j
theorem KepE.j {m K : Mem} (h : KepE m K) (k j : Nat) : gJ K k j = gJ m k j := by
  obtain ⟨hh, k1, k2, k3, k4, k5, k6, k7, k8⟩ := h
  exact k8 k j
theorem RemE.b {m C : Mem} (h : RemE m C) (hR : RelB m) : RelB C := hR.keep (h.k (by omega)) (h.k (by omega)) (fun k k1 k2 => h.k (by omega)) (h.r 0 7) (h.r 0 8)
