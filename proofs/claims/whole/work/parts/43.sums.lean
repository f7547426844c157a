/-! REVIEWEROF, MATCHSUM -/
def fi (P : Nat → Bool) (v : Int32) : Nat → Nat → Nat → Option Nat
  | 0, _, _ => none
  | d + 1, i, c => if P i then (if nI c = v then some i else fi P v d (i + 1) (c + 1)) else fi P v d (i + 1) c
theorem fi_succ (P : Nat → Bool) (v : Int32) (d i c : Nat) : fi P v (d + 1) i c = if P i then (if nI c = v then some i else fi P v d (i + 1) (c + 1)) else fi P v d (i + 1) c := rfl
theorem fi_congr {P Q : Nat → Bool} {v : Int32} : ∀ d i c, (∀ k, i ≤ k → k < i + d → P k = Q k) → fi P v d i c = fi Q v d i c
  | 0, _, _, _ => rfl
  | d + 1, i, c, h => by
    show (if P i then _ else _) = (if Q i then _ else _)
    rw [h i (by omega) (by omega), fi_congr d (i + 1) (c + 1) (fun k h1 h2 => h k (by omega) (by omega)), fi_congr d (i + 1) c (fun k h1 h2 => h k (by omega) (by omega))]
theorem fi_none {P : Nat → Bool} {v : Int32} (hv : v < 0) : ∀ d i c, c + d < 2 ^ 31 → fi P v d i c = none
  | 0, _, _, _ => rfl
  | d + 1, i, c, h => by
    show (if P i then _ else _) = none
    rw [if_neg (show ¬ nI c = v from fun e => nI_pos (n := c) (by omega) (by rw [e]; exact hv)), fi_none hv d (i + 1) (c + 1) (by omega), fi_none hv d (i + 1) c (by omega)]
    split <;> rfl
theorem fi_is {P : Nat → Bool} {j : Nat} (hj : j < 2 ^ 31) : ∀ d i c, c + d < 2 ^ 31 → c ≤ j → (fi P (nI j) d i c).isSome = decide (j < c + cnt (fun k => P (i + k)) d)
  | 0, _, c, _, hc => by
    rw [decide_eq_false (by show ¬ j < c + 0; omega)]
    rfl
  | d + 1, i, c, h, hc => by
    rw [cnt_shift]
    have e : (fun k => P (i + (k + 1))) = (fun k => P (i + 1 + k)) := funext (fun k => by rw [show i + (k + 1) = i + 1 + k by omega])
    show (if P i then _ else _ : Option Nat).isSome = _
    rw [show i + 0 = i from rfl, e]
    cases hp : P i
    · rw [if_neg (by decide), if_neg (by decide), fi_is hj d (i + 1) c (by omega) hc, Nat.zero_add]
    · rw [if_pos rfl, if_pos rfl]
      by_cases he : c = j
      · subst he
        rw [if_pos rfl, decide_eq_true (by omega)]
        rfl
      · rw [if_neg (fun e => he ((nI_eq (by omega) hj).mp e)), fi_is hj d (i + 1) (c + 1) (by omega) (by omega), Nat.add_assoc]
theorem fi_in {P : Nat → Bool} {v : Int32} {n : Nat} (hn : n ≤ 12) : (fi P v n 0 0).isSome = inR v (cnt P n) := by
  have hc := cnt_le P n
  by_cases hv : v < 0
  · rw [fi_none hv n 0 0 (by omega)]
    symm
    apply Bool.eq_false_iff.mpr
    intro h
    obtain ⟨j, hj, rfl⟩ := inR_nI h
    exact nI_pos (by omega) hv
  · obtain ⟨j, hj, rfl⟩ := nI_of hv
    rw [fi_is hj n 0 0 (by omega) (by omega)]
    have e : (fun k => P (0 + k)) = P := funext (fun k => by rw [Nat.zero_add])
    rw [e, Nat.zero_add]
    by_cases h : j < cnt P n
    · rw [decide_eq_true h, nI_inR h (by omega)]
    · rw [decide_eq_false h]
      symm
      apply Bool.eq_false_iff.mpr
      intro h2
      obtain ⟨i, hi, e⟩ := inR_nI h2
      exact h (by rw [(nI_eq hj (by omega)).mp e]; exact hi)
def fiO (m : Mem) : Option Nat → (Mem ⊕ (Int32 × Mem))
  | none => .inl m
  | some k => .inr (nI k, m)
theorem c_reviewerOf_go (N : Nat) {m : Mem} (h : RelB m) {p : Nat} (hp : p < 16) (v : Int32) : ∀ d n i c, i + d = nR m → d < n → L_X9_reviewerOf_10 N n (nI p) v (nI c) (nI i) m = some (fiO m (fi (fun r => decide (¬ gI m 4 (16 * r + p) = 0)) v d i c)) := by
  have hR := h.R.2
  intro d
  induction d with
  | zero =>
    intro n i c hi hn
    obtain ⟨n, rfl⟩ : ∃ k, n = k + 1 := ⟨n - 1, by omega⟩
    show T_X9_reviewerOf_10 N (L_X9_reviewerOf_10 N n) _ _ _ _ _ = _
    unfold T_X9_reviewerOf_10
    rw [gd_t (st_k h.s), h.cR, if_pos (nI_le (by omega) (by omega))]
    rfl
  | succ d ih =>
    intro n i c hi hn
    obtain ⟨n, rfl⟩ : ∃ k, n = k + 1 := ⟨n - 1, by omega⟩
    show T_X9_reviewerOf_10 N (L_X9_reviewerOf_10 N n) _ _ _ _ _ = _
    unfold T_X9_reviewerOf_10
    rw [gd_t (st_k h.s), h.cR, if_neg (nI_ge (by omega) (by omega)), b2_of (c_hasReview N (by omega) hp m), nI_1, nI_1, ih n (i + 1) c (by omega) (by omega), ih n (i + 1) (c + 1) (by omega) (by omega)]
    rw [fi_succ]
    by_cases hz : gI m 4 (16 * i + p) = 0
    · rw [if_pos (by rw [if_pos hz]), if_neg (by simp [hz])]
    · rw [if_neg (by rw [if_neg hz]; decide), if_pos (show decide (¬ gI m 4 (16 * i + p) = 0) = true by simp [hz])]
      by_cases hv : nI c = v
      · rw [if_pos hv, if_pos hv]
        rfl
      · rw [if_neg hv, if_neg hv]
theorem m_reviewerOf_go (N : Nat) {m : Mem} (h : RelB m) (h0 : gI m 95 0 = 0) {p : Nat} (hp : p < 16) (v : Int32) : ∀ d n i c, i + d = nR m → d < n → L_X10_reviewerOf_37 N n (nI p) v (nI c) (nI i) m = some (fiO m (fi (fun r => (vN (gI m 98 (14 + r))).testBit p) v d i c)) := by
  have hR := h.R.2
  intro d
  induction d with
  | zero =>
    intro n i c hi hn
    obtain ⟨n, rfl⟩ : ∃ k, n = k + 1 := ⟨n - 1, by omega⟩
    show T_X10_reviewerOf_37 N (L_X10_reviewerOf_37 N n) _ _ _ _ _ = _
    unfold T_X10_reviewerOf_37
    rw [h.R.1, if_pos (nI_le (by omega) (by omega))]
    rfl
  | succ d ih =>
    intro n i c hi hn
    obtain ⟨n, rfl⟩ : ∃ k, n = k + 1 := ⟨n - 1, by omega⟩
    show T_X10_reviewerOf_37 N (L_X10_reviewerOf_37 N n) _ _ _ _ _ = _
    unfold T_X10_reviewerOf_37
    rw [h.R.1, if_neg (nI_ge (by omega) (by omega)), h0, if_pos rfl, b2_of (m_isReview N (by omega) (by omega) m (h.2.2.2.1 _ (by omega))), nI_1, nI_1, ih n (i + 1) c (by omega) (by omega), ih n (i + 1) (c + 1) (by omega) (by omega)]
    rw [fi_succ]
    cases hb : (vN (gI m 98 (14 + i))).testBit p
    · rfl
    · rw [if_neg (by decide), if_pos rfl]
      by_cases hv : nI c = v
      · rw [if_pos hv, if_pos hv]
        rfl
      · rw [if_neg hv, if_neg hv]
theorem op_reviewerOf {N : Nat} (hN : 16 < N) : Op_reviewerOf N := by
  intro m hR a v
  have hRR := hR.b.R.2
  have hQQ := hR.b.Q.2
  by_cases ha : inR a (nQ m) = true
  · obtain ⟨p, hp, rfl⟩ := inR_nI ha
    have hc := c_reviewerOf_go N hR.b (show p < 16 by omega) v (nR m) N 0 0 (by omega) (by omega)
    have hfc : fi (fun r => decide (¬ gI m 4 (16 * r + p) = 0)) v (nR m) 0 0 = fi (fun r => (vN (gI m 98 (14 + r))).testBit p) v (nR m) 0 0 := fi_congr _ _ _ (fun k _ hk => (hR.rv (by omega) (by omega)).symm)
    rw [hfc] at hc
    have his := fi_in (P := fun r => (vN (gI m 98 (14 + r))).testBit p) (v := v) hRR
    cases hf : fi (fun r => (vN (gI m 98 (14 + r))).testBit p) v (nR m) 0 0 with
    | none =>
      rw [hf] at hc his
      have hin : ¬ inR v (cnt (fun r => (vN (gI m 98 (14 + r))).testBit p) (nR m)) = true := by rw [← his]; decide
      refine OpI.no hR (v := 1) (w := 0) (by decide) ?_ ?_ (Or.inl rfl)
      · unfold f_L_reviewerOf f_X9_reviewerOf
        rw [x1_of (by rw [c_checkProposal N hR.b, if_pos ha]), show L_X9_reviewerOf_10 N N (nI p) v 0 0 m = _ from hc]
        rfl
      · unfold f_X10_reviewerOf B_X10_reviewerOf_28 B_X10_reviewerOf_29
        rw [b2_of (m_isProposal N hR.b _), if_pos ha, if_neg (by decide), b2_of (m_reviewsOf (by omega) (by omega) hRR m hR.b.R.1 (fun r hr => hR.b.2.2.2.1 _ (by omega))), b2_of (rng_m N (by have := cnt_le (fun r => (vN (gI m 98 (14 + r))).testBit p) (nR m); omega) m), if_neg hin, if_pos rfl, wr_eq]
        obtain ⟨n, hn⟩ : ∃ n, N = n + 1 := ⟨N - 1, by omega⟩
        have : L_X10_reviewerOf_37 N N (nI p) v 0 0 (sI m 95 0 1) = some (.inl (sI m 95 0 1)) := by
          rw [show L_X10_reviewerOf_37 N N = L_X10_reviewerOf_37 N (n + 1) by rw [hn]]
          show T_X10_reviewerOf_37 N (L_X10_reviewerOf_37 N n) _ _ _ _ _ = _
          unfold T_X10_reviewerOf_37
          rw [show gI (sI m 95 0 1) 95 0 = 1 from rfl, if_neg (show ¬ (1 : Int32) = 0 by decide)]
          split <;> rfl
        rw [this]
        rfl
    | some k =>
      rw [hf] at hc his
      have hin : inR v (cnt (fun r => (vN (gI m 98 (14 + r))).testBit p) (nR m)) = true := by rw [← his]; rfl
      refine OpI.read hR (b := nI k) ?_ ?_
      · unfold f_L_reviewerOf f_X9_reviewerOf
        rw [x1_of (by rw [c_checkProposal N hR.b, if_pos ha]), show L_X9_reviewerOf_10 N N (nI p) v 0 0 m = _ from hc]
        rfl
      · generalize (nI k).toInt64 = w
        have hR1 : Rel (sJ m 108 0 w) := hR.core Core.sJ'
        have hR2 : Rel (sI (sJ m 108 0 w) 95 0 0) := hR1.core (Core.sI95 (by omega))
        have hm := m_reviewerOf_go N hR2.b rfl (show p < 16 by omega) v (nR m) N 0 0 (show 0 + nR m = nR m by omega) (by omega)
        unfold f_X10_reviewerOf B_X10_reviewerOf_28 B_X10_reviewerOf_29
        rw [b2_of (m_isProposal N hR1.b _), if_pos (show inR (nI p) (nQ (sJ m 108 0 w)) = true from ha), if_neg (by decide), b2_of (m_reviewsOf (by omega) (by omega) hRR _ hR1.b.R.1 (fun r hr => hR1.b.2.2.2.1 _ (by omega))), b2_of (rng_m N (by have := cnt_le (fun r => (vN (gI (sJ m 108 0 w) 98 (14 + r))).testBit p) (nR m); omega) _), if_pos (show inR v (cnt (fun r => (vN (gI (sJ m 108 0 w) 98 (14 + r))).testBit p) (nR m)) = true from hin), if_neg (by decide), wr_eq, show L_X10_reviewerOf_37 N N (nI p) v 0 0 (sI (sJ m 108 0 w) 95 0 0) = _ from hm, show fi (fun r => (vN (gI (sI (sJ m 108 0 w) 95 0 0) 98 (14 + r))).testBit p) v (nR m) 0 0 = some k from hf]
        rfl
  · refine OpI.no hR (v := 1) (w := 0) (by decide) ?_ ?_ (Or.inl rfl)
    · unfold f_L_reviewerOf f_X9_reviewerOf
      rw [x1_th (by rw [c_checkProposal N hR.b, if_neg ha])]
      rfl
    · unfold f_X10_reviewerOf B_X10_reviewerOf_28 B_X10_reviewerOf_29
      rw [b2_of (m_isProposal N hR.b _), if_neg ha, if_pos rfl, wr_eq]
      obtain ⟨n, hn⟩ : ∃ n, N = n + 1 := ⟨N - 1, by omega⟩
      have : L_X10_reviewerOf_37 N N a v 0 0 (sI m 95 0 1) = some (.inl (sI m 95 0 1)) := by
        rw [show L_X10_reviewerOf_37 N N = L_X10_reviewerOf_37 N (n + 1) by rw [hn]]
        show T_X10_reviewerOf_37 N (L_X10_reviewerOf_37 N n) _ _ _ _ _ = _
        unfold T_X10_reviewerOf_37
        rw [show gI (sI m 95 0 1) 95 0 = 1 from rfl, if_neg (show ¬ (1 : Int32) = 0 by decide)]
        split <;> rfl
      rw [this]
      rfl
/-- the sum of the matches of a panel's reviews -/
def msV (m : Mem) (a : Int32) (p r : Nat) : Nat := if gI m 96 (59 + 5 * p) = a then (if (vN (gI m 98 (14 + r))).testBit p then mat m r p else 0) else 0
theorem m_matchSum_in (N : Nat) {m : Mem} (h : RelB m) {a : Int32} {p : Nat} (hp : p < nQ m) (s n : Nat) (hn : 12 < n) : L_X10_matchSum_41 N n a (nI s) (nI p) 0 m = some (a, nI (s + sm (msV m a p) (nR m)), nI p, m) := by
  have hR := h.R.2
  have hQ := h.Q.2
  refine loop_fn (fun n i => L_X10_matchSum_41 N n a (nI (s + sm (msV m a p) i)) (nI p) (nI i) m) (nR m) _ (fun n i hi => ?_) (fun n => ?_) (nR m) n 0 (by omega) (by omega)
  · show T_X10_matchSum_41 N (L_X10_matchSum_41 N n) _ _ _ _ _ = L_X10_matchSum_41 N n _ _ _ _ _
    unfold T_X10_matchSum_41 B_X10_matchSum_83
    rw [h.R.1, if_neg (nI_ge hi (by omega)), show (0 : Int32) = nI 0 from rfl, b2_of (m_proposal N (by omega) (by omega) m), b2_of (m_isReview N (by omega) (by omega) m (h.2.2.2.1 _ (by omega))), b2_of (m_mat N h hi hp), nI_1, nI_add, nI_add]
    show (if gI m 96 (59 + 5 * p) = a then _ else _) = L_X10_matchSum_41 N n a (nI (s + (sm (msV m a p) i + msV m a p i))) (nI p) (nI (i + 1)) m
    unfold msV
    by_cases he : gI m 96 (59 + 5 * p) = a
    · rw [if_pos he, if_pos he]
      cases hb : (vN (gI m 98 (14 + i))).testBit p
      · rfl
      · rw [if_neg (by decide), if_pos rfl, Nat.add_assoc]
    · rw [if_neg he, if_neg he]
      rfl
  · show T_X10_matchSum_41 N (L_X10_matchSum_41 N n) _ _ _ _ _ = _
    unfold T_X10_matchSum_41
    rw [h.R.1, if_pos (nI_le (Nat.le_refl _) (by omega))]
theorem m_matchSum_out {N : Nat} (hN : 16 < N) {m : Mem} (h : RelB m) (h0 : gI m 95 0 = 0) (a : Int32) : L_X10_matchSum_21 N N a 0 0 m = some (nI (sm (fun p => sm (msV m a p) (nR m)) (nQ m)), m) := by
  have hQ := h.Q.2
  refine loop_fn (fun n i => L_X10_matchSum_21 N n a (nI (sm (fun p => sm (msV m a p) (nR m)) i)) (nI i) m) (nQ m) _ (fun n i hi => ?_) (fun n => ?_) (nQ m) N 0 (by omega) (by omega)
  · show T_X10_matchSum_21 N (L_X10_matchSum_21 N n) _ _ _ _ = L_X10_matchSum_21 N n _ _ _ _
    unfold T_X10_matchSum_21
    rw [h.Q.1, if_neg (nI_ge hi (by omega)), h0, if_pos rfl, l4_of (m_matchSum_in N h hi _ N (by omega)), nI_1]
    rfl
  · show T_X10_matchSum_21 N (L_X10_matchSum_21 N n) _ _ _ _ = _
    unfold T_X10_matchSum_21
    rw [h.Q.1, if_pos (nI_le (Nat.le_refl _) (by omega))]
def msC (m : Mem) (a : Int32) (p r : Nat) : Nat := if gI m 96 (59 + 5 * p) = a then (if ¬ gI m 4 (16 * r + p) = 0 then mat m r p else 0) else 0
theorem c_matchSum_in (N : Nat) {m : Mem} (h : RelB m) {a : Int32} {p : Nat} (hp : p < nQ m) (s n : Nat) (hn : 12 < n) : L_X9_matchSum_23 N n a (nI s) (nI p) 0 m = some (a, nI (s + sm (msC m a p) (nR m)), nI p, m) := by
  have hR := h.R.2
  have hQ := h.Q.2
  refine loop_fn (fun n i => L_X9_matchSum_23 N n a (nI (s + sm (msC m a p) i)) (nI p) (nI i) m) (nR m) _ (fun n i hi => ?_) (fun n => ?_) (nR m) n 0 (by omega) (by omega)
  · show T_X9_matchSum_23 N (L_X9_matchSum_23 N n) _ _ _ _ _ = L_X9_matchSum_23 N n _ _ _ _ _
    unfold T_X9_matchSum_23
    rw [gd_t (st_k h.s), h.cR, if_neg (nI_ge hi (by omega)), gd_t (st_ok h.s (by omega) (by omega) (show p < 16 by omega)), st_rt h.s (by omega) (by omega), nI_clamp (by omega), show gI m (gR m 0 7 + (9 - 2)) p = gI m 96 (59 + 5 * p) from (h.rowP hp).1, b2_of (c_hasReview N (by omega) (by omega) m), gd_t (st_k h.s), b2_of (c_mat N h hi hp), nI_1, nI_add]
    show (if gI m 96 (59 + 5 * p) = a then _ else _) = L_X9_matchSum_23 N n a (nI (s + (sm (msC m a p) i + msC m a p i))) (nI p) (nI (i + 1)) m
    unfold msC
    by_cases he : gI m 96 (59 + 5 * p) = a
    · rw [if_pos he, if_pos he]
      by_cases hb : gI m 4 (16 * i + p) = 0
      · rw [if_pos (by rw [if_pos hb]), if_neg (by simp [hb])]
        rfl
      · rw [if_neg (by rw [if_neg hb]; decide), if_pos hb, Nat.add_assoc]
    · rw [if_neg he, if_neg he]
      rfl
  · show T_X9_matchSum_23 N (L_X9_matchSum_23 N n) _ _ _ _ _ = _
    unfold T_X9_matchSum_23
    rw [gd_t (st_k h.s), h.cR, if_pos (nI_le (Nat.le_refl _) (by omega))]
theorem c_matchSum_out {N : Nat} (hN : 16 < N) {m : Mem} (h : RelB m) (a : Int32) : L_X9_matchSum_9 N N a 0 0 m = some (nI (sm (fun p => sm (msC m a p) (nR m)) (nQ m)), m) := by
  have hQ := h.Q.2
  refine loop_fn (fun n i => L_X9_matchSum_9 N n a (nI (sm (fun p => sm (msC m a p) (nR m)) i)) (nI i) m) (nQ m) _ (fun n i hi => ?_) (fun n => ?_) (nQ m) N 0 (by omega) (by omega)
  · show T_X9_matchSum_9 N (L_X9_matchSum_9 N n) _ _ _ _ = L_X9_matchSum_9 N n _ _ _ _
    unfold T_X9_matchSum_9
    rw [gd_t (st_k h.s), h.cQ, if_neg (nI_ge hi (by omega)), l4_of (c_matchSum_in N h hi _ N (by omega)), nI_1]
    rfl
  · show T_X9_matchSum_9 N (L_X9_matchSum_9 N n) _ _ _ _ = _
    unfold T_X9_matchSum_9
    rw [gd_t (st_k h.s), h.cQ, if_pos (nI_le (Nat.le_refl _) (by omega))]
theorem op_matchSum {N : Nat} (hN : 16 < N) : Op_matchSum N := by
  intro m hR a
  have hRR := hR.b.R.2
  have hQQ := hR.b.Q.2
  by_cases ha : inR a (nP m) = true
  · have e : sm (fun p => sm (msC m a p) (nR m)) (nQ m) = sm (fun p => sm (msV m a p) (nR m)) (nQ m) := sm_congr _ (fun p hp => sm_congr _ (fun r hr => by
      unfold msC msV
      rw [hR.rv (by omega) (by omega)]
      by_cases hz : gI m 4 (16 * r + p) = 0
      · simp [hz]
      · simp [hz]))
    refine OpI.read hR (b := nI (sm (fun p => sm (msV m a p) (nR m)) (nQ m))) ?_ ?_
    · unfold f_L_matchSum f_X9_matchSum
      rw [x1_of (by rw [c_checkPanel N hR.b, if_pos ha]), l2_of (c_matchSum_out hN hR.b a), e]
      rfl
    · generalize (nI (sm (fun p => sm (msV m a p) (nR m)) (nQ m))).toInt64 = w
      have hR1 : Rel (sJ m 108 0 w) := hR.core Core.sJ'
      have hR2 : Rel (sI (sJ m 108 0 w) 95 0 0) := hR1.core (Core.sI95 (by omega))
      unfold f_X10_matchSum B_X10_matchSum_14
      rw [b2_of (m_isPanel N hR1.b _), if_pos (show inR a (nP (sJ m 108 0 w)) = true from ha), if_neg (by decide), wr_eq, l2_of (m_matchSum_out hN hR2.b rfl a)]
      rfl
  · refine OpI.no hR (v := 1) (w := 0) (by decide) ?_ ?_ (Or.inl rfl)
    · unfold f_L_matchSum f_X9_matchSum
      rw [x1_th (by rw [c_checkPanel N hR.b, if_neg ha])]
      rfl
    · unfold f_X10_matchSum B_X10_matchSum_14
      rw [b2_of (m_isPanel N hR.b _), if_neg ha, if_pos rfl, wr_eq]
      obtain ⟨n, hn⟩ : ∃ n, N = n + 1 := ⟨N - 1, by omega⟩
      have : L_X10_matchSum_21 N N a 0 0 (sI m 95 0 1) = some (0, sI m 95 0 1) := by
        rw [show L_X10_matchSum_21 N N = L_X10_matchSum_21 N (n + 1) by rw [hn]]
        show T_X10_matchSum_21 N (L_X10_matchSum_21 N n) _ _ _ _ = _
        unfold T_X10_matchSum_21
        rw [show gI (sI m 95 0 1) 95 0 = 1 from rfl, if_neg (show ¬ (1 : Int32) = 0 by decide)]
        split <;> rfl
      rw [l2_of this]
