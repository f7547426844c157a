/-! THE HISTORY: remember and keeps -/
theorem RelT.ext {t : Nat → Int32} {gr li gr' li' : Int32} {sc de W sc' de' W' : Nat → Int32} (h : RelT t gr li sc de W) (e1 : gr' = gr) (e2 : li' = li) (e3 : ∀ j, j < 192 → sc' j = sc j) (e4 : ∀ j, j < 12 → de' j = de j) (e5 : ∀ j, j < 218 → W' j = W j) : RelT t gr' li' sc' de' W' := by
  obtain ⟨h1, h2, h3, h4, h5, h6, h7, h8⟩ := h
  subst e1 e2
  refine ⟨fun i hi => by rw [e5 i hi]; exact h1 i hi, by rw [e5 0 (by omega)]; exact h2, by rw [e5 0 (by omega)]; exact h3, by rw [e5 1 (by omega)]; exact h4, by rw [e5 1 (by omega)]; exact h5, fun r hr => ?_, fun r hr => by rw [e5 (14 + r) (by omega)]; exact h7 r hr, fun r hr p hp => ?_⟩
  · rw [e4 r hr, e5 (2 + r) (by omega)]
    exact h6 r hr
  · rw [e3 (16 * r + p) (by omega), e5 (14 + r) (by omega), e5 (26 + (16 * r + p)) (by omega)]
    exact h8 r hr p hp
/-- a state copied -/
def cpS (s d : Nat) (m : Mem) : Mem := sI (sI (cpI (cpI m (s + 1) 0 (d + 1) 0 192) (s + 2) 0 (d + 2) 0 12) d 2 (gI m s 2)) d 3 (gI m s 3)
def isS (k : Nat) : Prop := k = 3 ∨ ∃ i, i < 10 ∧ k = 8 + 3 * i
theorem isS_tab : ∀ i, i < 10 → (rt 7 i = 8 + 3 * i ∧ kd (8 + 3 * i) = 7 ∧ rt (8 + 3 * i) 0 = 9 + 3 * i ∧ rt (8 + 3 * i) 1 = 10 + 3 * i ∧ kd (9 + 3 * i) = 12 ∧ kd (10 + 3 * i) = 12 ∧ ln (9 + 3 * i) = 192 ∧ ln (10 + 3 * i) = 12) := by decide
theorem isS_f {k : Nat} (h : isS k) : kd k = 7 ∧ rt k 0 = k + 1 ∧ rt k 1 = k + 2 ∧ kd (k + 1) = 12 ∧ kd (k + 2) = 12 ∧ ln (k + 1) = 192 ∧ ln (k + 2) = 12 := by
  rcases h with rfl | ⟨i, hi, rfl⟩
  · decide
  · obtain ⟨_, h2, h3, h4, h5, h6, h7, h8⟩ := isS_tab i hi
    rw [show 8 + 3 * i + 1 = 9 + 3 * i by omega, show 8 + 3 * i + 2 = 10 + 3 * i by omega]
    exact ⟨h2, h3, h4, h5, h6, h7, h8⟩
theorem c_copyFrom (N : Nat) {s d : Nat} (hs : isS s) (hd : isS d) (hsd : s ≠ d) (m : Mem) : f_X7_copyFrom N d s m = some (cpS s d m) := by
  obtain ⟨s1, s2, s3, s4, s5, s6, s7⟩ := isS_f hs
  obtain ⟨d1, d2, d3, d4, d5, d6, d7⟩ := isS_f hd
  have hne : s ≠ d + 1 ∧ s ≠ d + 2 := by
    rcases hs with rfl | ⟨i, hi, rfl⟩ <;> rcases hd with rfl | ⟨j, hj, rfl⟩ <;> omega
  unfold f_X7_copyFrom
  rw [s2, s3, d2, d3, gd_t (by rw [s1]; rfl), gd_t (by rw [d1]; rfl), gd_t (by unfold okC; rw [s4, d4, s6, d6]; decide), wr_eq, gd_t (by unfold okC; rw [s5, d5, s7, d7]; decide), wr_eq, wr_eq, wr_eq]
  rw [show (0 : Int32).toNatClampNeg = 0 by decide, show (192 : Int32).toNatClampNeg = 192 by decide, show (12 : Int32).toNatClampNeg = 12 by decide]
  unfold cpS
  have e : ∀ j, gI (cpI (cpI m (s + 1) 0 (d + 1) 0 192) (s + 2) 0 (d + 2) 0 12) s j = gI m s j := by
    intro j
    rw [gI_cpI, if_neg (by omega), gI_cpI, if_neg (by omega)]
  rw [e 2, gI_sI, if_neg (by omega), e 3]
theorem cpS_k {s d k : Nat} (m : Mem) (h0 : k ≠ d) (h1 : k ≠ d + 1) (h2 : k ≠ d + 2) (j : Nat) : gI (cpS s d m) k j = gI m k j := by
  unfold cpS
  rw [gI_sI, if_neg (by omega), gI_sI, if_neg (by omega), gI_cpI, if_neg (by omega), gI_cpI, if_neg (by omega)]
theorem cpS_0 {s d : Nat} (m : Mem) : gI (cpS s d m) d 2 = gI m s 2 ∧ gI (cpS s d m) d 3 = gI m s 3 := by
  unfold cpS
  constructor
  · rw [gI_sI, if_neg (by omega), gI_sI, if_pos ⟨rfl, rfl⟩]
  · rw [gI_sI, if_pos ⟨rfl, rfl⟩]
theorem cpS_1 {s d : Nat} (m : Mem) {j : Nat} (hj : j < 192) : gI (cpS s d m) (d + 1) j = gI m (s + 1) j := by
  unfold cpS
  rw [gI_sI, if_neg (by omega), gI_sI, if_neg (by omega), gI_cpI, if_neg (by omega), gI_cpI, if_pos (by omega)]
  congr 1
  omega
theorem cpS_2 {s d : Nat} (hne : s + 2 ≠ d + 1) (m : Mem) {j : Nat} (hj : j < 12) : gI (cpS s d m) (d + 2) j = gI m (s + 2) j := by
  unfold cpS
  rw [gI_sI, if_neg (by omega), gI_sI, if_neg (by omega), gI_cpI, if_pos (by omega), gI_cpI, if_neg (by omega)]
  congr 1
  omega
def RemE (m C : Mem) : Prop := ∃ nx h : Nat, nx < 10 ∧ h ≤ 10 ∧ gI m 6 1 = nI nx ∧ gI m 6 2 = nI h ∧ gI C 6 1 = nI ((nx + 1) % 10) ∧ gI C 6 2 = nI (if h = 10 then 10 else h + 1) ∧ gI C (8 + 3 * nx) 2 = gI m 3 2 ∧ gI C (8 + 3 * nx) 3 = gI m 3 3 ∧
  (∀ j, j < 192 → gI C (9 + 3 * nx) j = gI m 4 j) ∧ (∀ j, j < 12 → gI C (10 + 3 * nx) j = gI m 5 j) ∧ (∀ k, k ≠ 6 → k ≠ 8 + 3 * nx → k ≠ 9 + 3 * nx → k ≠ 10 + 3 * nx → gI C k = gI m k) ∧ (∀ k j, gR C k j = gR m k j) ∧ (∀ k j, gJ C k j = gJ m k j)
theorem c_remember (N : Nat) {m : Mem} (hH : HistOK m) : ∃ C, f_X2_remember N m = some C ∧ RemE m C := by
  obtain ⟨h, nx, a1, a2, a3, a4, a5, a6⟩ := hH
  obtain ⟨t1, t2, _⟩ := isS_tab nx a2
  have hk : ∀ j, gI (cpS 3 (8 + 3 * nx) m) 6 j = gI m 6 j := fun j => cpS_k m (by omega) (by omega) (by omega) j
  have e1 : (if (10 : Int32) ≤ nI nx + 1 then B_X2_remember_35 N 0 (cpS 3 (8 + 3 * nx) m) else B_X2_remember_35 N (nI nx + 1) (cpS 3 (8 + 3 * nx) m)) = B_X2_remember_35 N (nI ((nx + 1) % 10)) (cpS 3 (8 + 3 * nx) m) := by
    rw [nI_1]
    by_cases h9 : nx = 9
    · subst h9
      rw [if_pos (by decide)]
      rfl
    · rw [if_neg (show ¬ (10 : Int32) ≤ nI (nx + 1) from nI_ge (b := 10) (by omega) (by omega)), Nat.mod_eq_of_lt (by omega)]
  have e2 : (if (10 : Int32) < nI h + 1 then (10 : Int32) else nI h + 1) = nI (if h = 10 then 10 else h + 1) := by
    rw [nI_1]
    by_cases h9 : h = 10
    · subst h9
      rw [if_pos (by decide), if_pos rfl]
      rfl
    · rw [if_neg (show ¬ (10 : Int32) < nI (h + 1) from nI_nlt (a := 10) (by omega) (by omega)), if_neg h9]
  refine ⟨sI (sI (cpS 3 (8 + 3 * nx) m) 6 1 (nI ((nx + 1) % 10))) 6 2 (nI (if h = 10 then 10 else h + 1)), ?_, nx, h, a2, a1, a5, a3, ?_, ?_, ?_, ?_, ?_, ?_, ?_, fun _ _ => rfl, fun _ _ => rfl⟩
  · unfold f_X2_remember
    rw [a5, gd_t (inb_nI a2 (by omega)), nI_clamp (by omega), t1, gd_t (by rw [t2]; rfl), b1_of (c_copyFrom N (Or.inl rfl) (Or.inr ⟨nx, a2, rfl⟩) (by omega) m), hk 1, a5, e1]
    unfold B_X2_remember_35
    rw [wr_eq, show gI (sI (cpS 3 (8 + 3 * nx) m) 6 1 (nI ((nx + 1) % 10))) 6 2 = nI h by rw [gI_sI, if_neg (by decide), hk 2, a3], e2]
    rfl
  · rw [gI_sI, if_neg (by decide), gI_sI, if_pos ⟨rfl, rfl⟩]
  · rw [gI_sI, if_pos ⟨rfl, rfl⟩]
  · rw [gI_sI, if_neg (by omega), gI_sI, if_neg (by omega)]
    exact (cpS_0 m).1
  · rw [gI_sI, if_neg (by omega), gI_sI, if_neg (by omega)]
    exact (cpS_0 m).2
  · intro j hj
    rw [gI_sI, if_neg (by omega), gI_sI, if_neg (by omega), show 9 + 3 * nx = 8 + 3 * nx + 1 by omega]
    exact cpS_1 m hj
  · intro j hj
    rw [gI_sI, if_neg (by omega), gI_sI, if_neg (by omega), show 10 + 3 * nx = 8 + 3 * nx + 2 by omega]
    exact cpS_2 (by omega) m hj
  · intro k k1 k2 k3 k4
    funext j
    rw [gI_sI, if_neg (by omega), gI_sI, if_neg (by omega)]
    exact cpS_k m (by omega) (by omega) (by omega) j
/-- the model's past moves down by one stretch -/
def shM : Nat → Mem → Mem
  | 0, m => m
  | i + 1, m => sI (shM i m) 99 i (gI (shM i m) 99 (i + 218))
theorem shM_k (m : Mem) : ∀ i k j, k ≠ 99 → gI (shM i m) k j = gI m k j
  | 0, _, _, _ => rfl
  | i + 1, k, j, h => by
    show gI (sI (shM i m) 99 i _) k j = _
    rw [gI_sI, if_neg (by omega)]
    exact shM_k m i k j h
theorem shM_99 (m : Mem) : ∀ i j, gI (shM i m) 99 j = if j < i then gI m 99 (j + 218) else gI m 99 j
  | 0, j => by
    rw [if_neg (by omega)]
    rfl
  | i + 1, j => by
    show gI (sI (shM i m) 99 i (gI (shM i m) 99 (i + 218))) 99 j = _
    rw [gI_sI, shM_99 m i j, shM_99 m i (i + 218)]
    by_cases h : j = i
    · subst h
      rw [if_pos ⟨rfl, rfl⟩, if_neg (by omega), if_pos (by omega)]
    · rw [if_neg (by omega)]
      by_cases h2 : j < i
      · rw [if_pos h2, if_pos (by omega)]
      · rw [if_neg h2, if_neg (by omega)]
theorem shM_R (m : Mem) : ∀ i k j, gR (shM i m) k j = gR m k j
  | 0, _, _ => rfl
  | i + 1, k, j => shM_R m i k j
theorem shM_J (m : Mem) : ∀ i k j, gJ (shM i m) k j = gJ m k j
  | 0, _, _ => rfl
  | i + 1, k, j => shM_J m i k j
/-- the model's state goes into its past -/
def kcM (h : Nat) : Nat → Mem → Mem
  | 0, m => m
  | i + 1, m => sI (kcM h i m) 99 (218 * h + i) (gI (kcM h i m) 98 i)
theorem kcM_k (h : Nat) (m : Mem) : ∀ i k j, k ≠ 99 → gI (kcM h i m) k j = gI m k j
  | 0, _, _, _ => rfl
  | i + 1, k, j, hk => by
    show gI (sI (kcM h i m) 99 _ _) k j = _
    rw [gI_sI, if_neg (by omega)]
    exact kcM_k h m i k j hk
theorem kcM_99 (h : Nat) (m : Mem) : ∀ i j, gI (kcM h i m) 99 j = if 218 * h ≤ j ∧ j < 218 * h + i then gI m 98 (j - 218 * h) else gI m 99 j
  | 0, j => by
    rw [if_neg (by omega)]
    rfl
  | i + 1, j => by
    show gI (sI (kcM h i m) 99 (218 * h + i) (gI (kcM h i m) 98 i)) 99 j = _
    rw [gI_sI, kcM_99 h m i j, kcM_k h m i 98 i (by omega)]
    by_cases hj : j = 218 * h + i
    · rw [if_pos ⟨rfl, hj⟩, if_pos (by omega), hj, show 218 * h + i - 218 * h = i by omega]
    · rw [if_neg (by omega)]
      by_cases h2 : 218 * h ≤ j ∧ j < 218 * h + i
      · rw [if_pos h2, if_pos (by omega)]
      · rw [if_neg h2, if_neg (by omega)]
theorem kcM_R (h : Nat) (m : Mem) : ∀ i k j, gR (kcM h i m) k j = gR m k j
  | 0, _, _ => rfl
  | i + 1, k, j => kcM_R h m i k j
theorem kcM_J (h : Nat) (m : Mem) : ∀ i k j, gJ (kcM h i m) k j = gJ m k j
  | 0, _, _ => rfl
  | i + 1, k, j => kcM_J h m i k j
def KepE (m K : Mem) : Prop := ∃ h : Nat, h ≤ 10 ∧ gI m 95 5 = nI h ∧ gI K 95 5 = nI (if h = 10 then 10 else h + 1) ∧ (∀ j, j < 218 → gI K 99 (218 * (if h = 10 then 9 else h) + j) = gI m 98 j) ∧
  (∀ j, j < 218 * (if h = 10 then 9 else h) → gI K 99 j = gI m 99 (if h = 10 then j + 218 else j)) ∧ (∀ k j, k ≠ 99 → ¬ (k = 95 ∧ j = 5) → gI K k j = gI m k j) ∧ (∀ k j, gR K k j = gR m k j) ∧ (∀ k j, gJ K k j = gJ m k j)
theorem m_keeps55 {N : Nat} (hN : 3000 < N) {m : Mem} {h : Nat} (hh : h < 10) (h5 : gI m 95 5 = nI h) : B_X10_keeps_55 N m = some (sI (kcM h 218 m) 95 5 (nI (h + 1))) := by
  have hl : L_X10_keeps_57 N N 0 m = some (kcM h 218 m) := by
    refine loop_fn (fun n i => L_X10_keeps_57 N n (nI i) (kcM h i m)) 218 _ (fun n i hi => ?_) (fun n => ?_) 218 N 0 rfl (by omega)
    · show T_X10_keeps_57 N (L_X10_keeps_57 N n) _ _ = L_X10_keeps_57 N n _ _
      unfold T_X10_keeps_57
      rw [if_neg (show ¬ (218 : Int32) ≤ nI i from nI_ge (b := 218) hi (by omega)), gd_t (inb_nI hi (by omega)), kcM_k h m i 95 5 (by omega), h5, show (218 : Int32) * nI h + nI i = nI (218 * h + i) by rw [show (218 : Int32) = nI 218 from rfl, nI_mul, nI_add], gd_t (inb_nI (by omega) (by omega)), wr_eq, nI_clamp (by omega), nI_clamp (by omega), nI_1]
      rfl
    · show T_X10_keeps_57 N (L_X10_keeps_57 N n) _ _ = _
      unfold T_X10_keeps_57
      rw [if_pos (show (218 : Int32) ≤ nI 218 by decide)]
  unfold B_X10_keeps_55
  rw [l1_of hl, wr_eq, kcM_k h m 218 95 5 (by omega), h5, nI_1]
theorem m_keeps {N : Nat} (hN : 3000 < N) {m : Mem} {h : Nat} (hh : h ≤ 10) (h5 : gI m 95 5 = nI h) : ∃ K, f_X10_keeps N m = some K ∧ KepE m K := by
  by_cases h9 : h = 10
  · subst h9
    have hl : L_X10_keeps_21 N N 0 (sI m 95 5 (nI 9)) = some (shM 1962 (sI m 95 5 (nI 9))) := by
      refine loop_fn (fun n i => L_X10_keeps_21 N n (nI i) (shM i (sI m 95 5 (nI 9)))) 1962 _ (fun n i hi => ?_) (fun n => ?_) 1962 N 0 rfl (by omega)
      · show T_X10_keeps_21 N (L_X10_keeps_21 N n) _ _ = L_X10_keeps_21 N n _ _
        unfold T_X10_keeps_21
        rw [shM_k _ i 95 5 (by omega), show gI (sI m 95 5 (nI 9)) 95 5 = nI 9 from rfl, show nI 9 * (218 : Int32) = nI 1962 by decide, if_neg (nI_ge hi (by omega)), show nI i + (218 : Int32) = nI (i + 218) from nI_add i 218, gd_t (inb_nI (by omega) (by omega)), gd_t (inb_nI (by omega) (by omega)), wr_eq, nI_clamp (by omega), nI_clamp (by omega), nI_1]
        rfl
      · show T_X10_keeps_21 N (L_X10_keeps_21 N n) _ _ = _
        unfold T_X10_keeps_21
        rw [shM_k _ _ 95 5 (by omega), show gI (sI m 95 5 (nI 9)) 95 5 = nI 9 from rfl, show nI 9 * (218 : Int32) = nI 1962 by decide, if_pos (nI_le (Nat.le_refl _) (by omega))]
    have hk := m_keeps55 hN (m := shM 1962 (sI m 95 5 (nI 9))) (h := 9) (by omega) (by rw [shM_k _ _ 95 5 (by omega)]; rfl)
    refine ⟨sI (kcM 9 218 (shM 1962 (sI m 95 5 (nI 9)))) 95 5 (nI 10), ?_, 10, hh, h5, rfl, ?_, ?_, ?_, ?_, ?_⟩
    · unfold f_X10_keeps
      rw [h5, if_pos (show nI 10 = 10 from rfl), wr_eq, show nI 10 - (1 : Int32) = nI 9 from nI_pred 9, l1_of hl, hk]
    · intro j hj
      rw [if_pos rfl, gI_sI, if_neg (by omega), kcM_99, if_pos (by omega), shM_k _ _ 98 _ (by omega), gI_sI, if_neg (by omega), show 218 * 9 + j - 218 * 9 = j by omega]
    · intro j hj
      rw [if_pos rfl] at hj ⊢
      rw [gI_sI, if_neg (by omega), kcM_99, if_neg (by omega), shM_99, if_pos (by omega), gI_sI, if_neg (by omega)]
    · intro k j k1 k2
      rw [gI_sI, if_neg (by omega), kcM_k _ _ _ _ _ k1, shM_k _ _ _ _ k1, gI_sI, if_neg (by omega)]
    · intro k j
      rw [gR_sI, kcM_R, shM_R, gR_sI]
    · intro k j
      rw [gJ_sI, kcM_J, shM_J, gJ_sI]
  · have hk := m_keeps55 hN (m := m) (h := h) (by omega) h5
    refine ⟨sI (kcM h 218 m) 95 5 (nI (h + 1)), ?_, h, hh, h5, ?_, ?_, ?_, ?_, ?_, ?_⟩
    · unfold f_X10_keeps
      rw [h5, if_neg (show ¬ nI h = (10 : Int32) from fun e => h9 ((nI_eq (b := 10) (by omega) (by omega)).mp e)), hk]
    · rw [gI_sI, if_pos ⟨rfl, rfl⟩, if_neg h9]
    · intro j hj
      rw [if_neg h9, gI_sI, if_neg (by omega), kcM_99, if_pos (by omega), show 218 * h + j - 218 * h = j by omega]
    · intro j hj
      rw [if_neg h9] at hj ⊢
      rw [gI_sI, if_neg (by omega), kcM_99, if_neg (by omega)]
    · intro k j k1 k2
      rw [gI_sI, if_neg (by omega), kcM_k _ _ _ _ _ k1]
    · intro k j
      rw [gR_sI, kcM_R]
    · intro k j
      rw [gJ_sI, kcM_J]
