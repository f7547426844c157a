/-! UNDO -/
def unM (g : Nat) : Nat → Mem → Mem
  | 0, m => m
  | i + 1, m => sI (unM g i m) 98 i (gI (unM g i m) 99 (218 * g + i))
theorem unM_k (g : Nat) (m : Mem) : ∀ i k j, k ≠ 98 → gI (unM g i m) k j = gI m k j
  | 0, _, _, _ => rfl
  | i + 1, k, j, hk => by
    show gI (sI (unM g i m) 98 _ _) k j = _
    rw [gI_sI, if_neg (by omega)]
    exact unM_k g m i k j hk
theorem unM_98 (g : Nat) (m : Mem) : ∀ i j, gI (unM g i m) 98 j = if j < i then gI m 99 (218 * g + j) else gI m 98 j
  | 0, j => by
    rw [if_neg (by omega)]
    rfl
  | i + 1, j => by
    show gI (sI (unM g i m) 98 i (gI (unM g i m) 99 (218 * g + i))) 98 j = _
    rw [gI_sI, unM_98 g m i j, unM_k g m i 99 _ (by omega)]
    by_cases hj : j = i
    · rw [if_pos ⟨rfl, hj⟩, if_pos (by omega), hj]
    · rw [if_neg (by omega)]
      by_cases h2 : j < i
      · rw [if_pos h2, if_pos (by omega)]
      · rw [if_neg h2, if_neg (by omega)]
theorem unM_R (g : Nat) (m : Mem) : ∀ i k j, gR (unM g i m) k j = gR m k j
  | 0, _, _ => rfl
  | i + 1, k, j => unM_R g m i k j
theorem unM_J (g : Nat) (m : Mem) : ∀ i k j, gJ (unM g i m) k j = gJ m k j
  | 0, _, _ => rfl
  | i + 1, k, j => unM_J g m i k j
theorem op_undo {N : Nat} (hN : 3000 < N) : Op_undo N := by
  intro m hR
  obtain ⟨h, nx, a1, a2, a3, a4, a5, a6⟩ := hR.hist
  by_cases h0 : h = 0
  · subst h0
    refine OpI.no hR (v := 1) (w := 0) (by decide) ?_ ?_ (Or.inl rfl)
    · unfold f_L_undo f_X9_undo
      rw [a3, if_pos (show nI 0 = 0 from rfl)]
      rfl
    · unfold f_X10_undo B_X10_undo_13
      rw [a4, if_pos (show nI 0 = 0 from rfl), rs_no _ (by decide)]
  · obtain ⟨g, rfl⟩ : ∃ g, h = g + 1 := ⟨h - 1, by omega⟩
    obtain ⟨pv, hpv⟩ : ∃ pv, pv = (nx + 9) % 10 := ⟨_, rfl⟩
    have hpv10 : pv < 10 := by omega
    obtain ⟨t1, t2, _⟩ := isS_tab pv hpv10
    generalize hY : sI (sI m 6 1 (nI pv)) 6 2 (nI g) = Y
    have yk : ∀ k, k ≠ 6 → gI Y k = gI m k := fun k hk => by rw [← hY, sI_ne _ _ hk, sI_ne _ _ hk]
    generalize hX : cpS (8 + 3 * pv) 3 Y = X
    have xk : ∀ k, k ≠ 3 → k ≠ 4 → k ≠ 5 → gI X k = gI Y k := fun k q1 q2 q3 => by
      funext j
      rw [← hX]
      exact cpS_k Y q1 q2 q3 j
    have xm : ∀ k, k ≠ 3 → k ≠ 4 → k ≠ 5 → k ≠ 6 → gI X k = gI m k := fun k q1 q2 q3 q4 => (xk k q1 q2 q3).trans (yk k q4)
    have x62 : gI X 6 2 = nI g := by rw [xk 6 (by omega) (by omega) (by omega), ← hY, gI_sI, if_pos ⟨rfl, rfl⟩]
    have x61 : gI X 6 1 = nI pv := by rw [xk 6 (by omega) (by omega) (by omega), ← hY, gI_sI, if_neg (by decide), gI_sI, if_pos ⟨rfl, rfl⟩]
    have xr : ∀ k j, gR X k j = gR m k j := fun k j => by rw [← hX, ← hY]; rfl
    have hcl : f_X2_restore N m = some X := by
      have hB : B_X2_restore_19 N (nI pv) m = some X := by
        unfold B_X2_restore_19
        rw [wr_eq, wr_eq, show gI (sI m 6 1 (nI pv)) 6 2 = nI (g + 1) from a3, nI_pred, hY, show gI Y 6 1 = nI pv by rw [← hY, gI_sI, if_neg (by decide), gI_sI, if_pos ⟨rfl, rfl⟩], gd_t (inb_nI hpv10 (by omega)), nI_clamp (by omega), t1, b1_of (c_copyFrom N (Or.inr ⟨pv, hpv10, rfl⟩) (Or.inl rfl) (by omega) Y), hX]
      unfold f_X2_restore
      rw [a5]
      by_cases hn : nx = 0
      · subst hn
        rw [if_pos (by decide), show (9 : Int32) = nI pv by rw [hpv]; rfl, hB]
      · rw [if_neg (nI_nle (by omega) (by omega))]
        obtain ⟨u, rfl⟩ : ∃ u, nx = u + 1 := ⟨nx - 1, by omega⟩
        rw [nI_pred, show u = pv by omega, hB]
    generalize hZ : sI (sI (sJ X 108 0 (nI g).toInt64) 95 0 0) 95 5 (nI g) = Z
    have zk : ∀ k j, ¬ (k = 95 ∧ (j = 0 ∨ j = 5)) → gI Z k j = gI X k j := fun k j q => by rw [← hZ, gI_sI, if_neg (by omega), gI_sI, if_neg (by omega), gI_sJ]
    have z5 : gI Z 95 5 = nI g := by rw [← hZ, gI_sI, if_pos ⟨rfl, rfl⟩]
    have hl : L_X10_undo_37 N N 0 Z = some (unM g 218 Z) := by
      refine loop_fn (fun n i => L_X10_undo_37 N n (nI i) (unM g i Z)) 218 _ (fun n i hi => ?_) (fun n => ?_) 218 N 0 rfl (by omega)
      · show T_X10_undo_37 N (L_X10_undo_37 N n) _ _ = L_X10_undo_37 N n _ _
        unfold T_X10_undo_37
        rw [if_neg (show ¬ (218 : Int32) ≤ nI i from nI_ge (b := 218) hi (by omega)), unM_k g Z i 95 5 (by omega), z5, show (218 : Int32) * nI g + nI i = nI (218 * g + i) by rw [show (218 : Int32) = nI 218 from rfl, nI_mul, nI_add], gd_t (inb_nI (by omega) (by omega)), gd_t (inb_nI hi (by omega)), wr_eq, nI_clamp (by omega), nI_clamp (by omega), nI_1]
        rfl
      · show T_X10_undo_37 N (L_X10_undo_37 N n) _ _ = _
        unfold T_X10_undo_37
        rw [if_pos (show (218 : Int32) ≤ nI 218 by decide)]
    have fk : ∀ k, k ≠ 3 → k ≠ 4 → k ≠ 5 → k ≠ 6 → k ≠ 95 → k ≠ 98 → gI (unM g 218 Z) k = gI m k := fun k q1 q2 q3 q4 q5 q6 => by
      funext j
      rw [unM_k g Z 218 k j q6, zk k j (by omega), xm k q1 q2 q3 q4]
    have f95 : ∀ j, j ≠ 0 → j ≠ 5 → gI (unM g 218 Z) 95 j = gI m 95 j := fun j q1 q2 => by
      rw [unM_k g Z 218 95 j (by omega), zk 95 j (by omega), xm 95 (by omega) (by omega) (by omega) (by omega)]
    have fr : ∀ k j, gR (unM g 218 Z) k j = gR m k j := fun k j => by rw [unM_R, ← hZ]; exact xr k j
    refine ⟨0, sJ X 108 0 (nI g).toInt64, nI g, unM g 218 Z, ?_, ?_, ?_, fun _ => ?_, ?_⟩
    · unfold f_L_undo f_X9_undo
      rw [a3, if_neg (nI_ne0 (by omega) (by omega)), b1_of hcl, x62]
      rfl
    · unfold f_X10_undo B_X10_undo_13
      rw [gI_sJ, xm 95 (by omega) (by omega) (by omega) (by omega), a4, if_neg (nI_ne0 (by omega) (by omega)), rs_ok, wr_eq, show gI (sI (sJ X 108 0 (nI g).toInt64) 95 0 0) 95 5 = nI (g + 1) by rw [gI_sI, if_neg (by decide), gI_sJ, xm 95 (by omega) (by omega) (by omega) (by omega), a4], nI_pred, hZ, l1_of hl, unM_k g Z 218 95 5 (by omega), z5]
    · rw [unM_k g Z 218 95 0 (by omega), ← hZ, gI_sI, if_neg (by decide), gI_sI, if_pos ⟨rfl, rfl⟩]
    · rw [unM_J, ← hZ, gJ_sI, gJ_sI, gJ_sJ, if_pos ⟨rfl, rfl⟩]
    · have old := a6 0 (by omega)
      obtain ⟨g1, g2, g3, g4, g5, g6, _, _⟩ := hR
      have hs := g1.s
      have e96 := fk 96 (by omega) (by omega) (by omega) (by omega) (by omega) (by omega)
      refine ⟨?_, ?_, ?_, ?_, by rw [e96]; exact g5, ?_, ?_, ?_⟩
      · unfold RefOK
        rw [fr, fr]
        exact g1
      · unfold ChOK ChAt
        simp only [fr]
        exact g2
      · exact g3.keep (fk 2 (by omega) (by omega) (by omega) (by omega) (by omega) (by omega)) (fk 100 (by omega) (by omega) (by omega) (by omega) (by omega) (by omega)) (by rw [fk 1 (by omega) (by omega) (by omega) (by omega) (by omega) (by omega)]) (f95 7 (by omega) (by omega))
      · unfold ErrOK
        rw [fk 1 (by omega) (by omega) (by omega) (by omega) (by omega) (by omega), f95 9 (by omega) (by omega), f95 10 (by omega) (by omega)]
        exact g4
      · rw [fr]
        exact g6.keep e96 (fun k k1 k2 => fk k (by omega) (by omega) (by omega) (by omega) (by omega) (by omega))
      · unfold StateAt at old ⊢
        rw [e96]
        rw [show (nx + 9 - 0) % 10 = pv by omega, show g + 1 - 1 - 0 = g by omega] at old
        refine old.ext ?_ ?_ ?_ ?_ ?_
        · rw [unM_k g Z 218 3 2 (by omega), zk 3 2 (by omega), ← hX, (cpS_0 Y).1, yk _ (by omega)]
        · rw [unM_k g Z 218 3 3 (by omega), zk 3 3 (by omega), ← hX, (cpS_0 Y).2, yk _ (by omega)]
        · intro j hj
          rw [unM_k g Z 218 _ j (by omega), zk _ j (by omega), ← hX, cpS_1 Y hj, yk _ (by omega)]
        · intro j hj
          rw [unM_k g Z 218 _ j (by omega), zk _ j (by omega), ← hX, cpS_2 (by omega) Y hj, yk _ (by omega)]
        · intro j hj
          show gI (unM g 218 Z) 98 (0 + j) = gI m 99 (218 * g + j)
          rw [Nat.zero_add, unM_98, if_pos hj, zk 99 _ (by omega), xm 99 (by omega) (by omega) (by omega) (by omega)]
      · refine ⟨g, pv, by omega, hpv10, ?_, ?_, ?_, fun i hi => ?_⟩
        · rw [unM_k g Z 218 6 2 (by omega), zk 6 2 (by omega), x62]
        · rw [unM_k g Z 218 95 5 (by omega), z5]
        · rw [unM_k g Z 218 6 1 (by omega), zk 6 1 (by omega), x61]
        · have o2 := a6 (i + 1) (by omega)
          rw [show (nx + 9 - (i + 1)) % 10 = (pv + 9 - i) % 10 by omega, show g + 1 - 1 - (i + 1) = g - 1 - i by omega] at o2
          exact o2.keep e96 (fk _ (by omega) (by omega) (by omega) (by omega) (by omega) (by omega)) (fk _ (by omega) (by omega) (by omega) (by omega) (by omega) (by omega)) (fk _ (by omega) (by omega) (by omega) (by omega) (by omega) (by omega)) (fk 99 (by omega) (by omega) (by omega) (by omega) (by omega) (by omega))
