def Ex_X10_scoresOf_4 (Γ : Gc) (cs : Nat) (b : Int32 × Mem) : Prop := (∀ (y2 : Int32) (m' : Mem), b = (y2, m') → G Γ 4 cs m' 37 [(2, .int y2)] [])
set_option maxRecDepth 100000 in
set_option maxHeartbeats 4000000 in
theorem t_X10_scoresOf_4 (N : Nat) (Γ : Gc) (C : Cx Γ cX10_scoresOf 4 RX10 (rmK 2 44 0)) (rc : Int32 → Int32 → Int32 → Mem → Option (Int32 × Mem)) (b : Int32 × Mem) (hE : Ex_X10_scoresOf_4 Γ 0 b) (hrec : ∀ (v1 : Int32) (v2 : Int32) (v3 : Int32) (m : Mem) (b : Int32 × Mem), rc v1 v2 v3 m = some b → Ex_X10_scoresOf_4 Γ 0 b → G Γ 4 0 m 4 [(0, .ref (oa (gw Γ) 95)), (1, .int v1), (2, .int v2), (3, .int v3)] []) (v1 : Int32) (v2 : Int32) (v3 : Int32) (m : Mem) (h : T_X10_scoresOf_4 N rc v1 v2 v3 m = some b) : G Γ 4 0 m 4 [(0, .ref (oa (gw Γ) 95)), (1, .int v1), (2, .int v2), (3, .int v3)] [] := by
  unfold T_X10_scoresOf_4 at h
  refine g_iload_n C dX10_scoresOf_4 3 rfl rfl ?_
  refine g_aload_n C dX10_scoresOf_5 0 rfl rfl ?_
  refine g_getT (b := 96) (ci := 10) (j := 1) C dX10_scoresOf_6 rfl (by decide) rfl inT_X10 (by decide) k_506 rfl rfl rfl rfl ?_
  refine g_iconst (v := (1 : Int32)) C dX10_scoresOf_9 (by decide) ?_
  refine g_iald' (j := 1) C dX10_scoresOf_10 (okA_of rfl rfl (by decide)) (by decide) ?_
  refine g_icmp_ge (tgt := 37) C dX10_scoresOf_11 (by decide) (fun c_3 => ?_) (fun c_3 => ?_)
  · replace h := it_t c_3 h
    obtain rfl := Option.some.inj h
    refine g_sub [2] rfl ?_
    exact hE _ _ rfl
  · replace h := it_f c_3 h
    refine g_iload_n C dX10_scoresOf_14 2 rfl rfl ?_
    refine g_aload_n C dX10_scoresOf_15 0 rfl rfl ?_
    refine g_iload_n C dX10_scoresOf_16 3 rfl rfl ?_
    refine g_iload_n C dX10_scoresOf_17 1 rfl rfl ?_
    obtain ⟨r_1, m_1, hk_1, h⟩ := b2_some h
    refine g_vI (As := [.int v3, .int v1]) (a := 95) (ci := 10) C dX10_scoresOf_18 mf_X10_isScored k_699 rfl (by decide) ⟨by decide, by decide⟩ rfl rfl (Nat.le_of_ble_eq_true rfl) (by decide) rfl (c_X10_isScored N (gl Γ) C.2.2.2.2 (gw Γ) v3 v1 m _ hk_1) ?_
    refine g_if_eq (tgt := 28) C dX10_scoresOf_21 (by decide) (fun c_2 => ?_) (fun c_2 => ?_)
    · replace h := it_t c_2 h
      refine g_iconst (v := (0 : Int32)) C dX10_scoresOf_28 (by decide) ?_
      refine g_iadd C dX10_scoresOf_29 ?_
      refine g_istore_n (lv' := [(2, .int (v2 + (0 : Int32))), (0, .ref (oa (gw Γ) 95)), (1, .int v1), (3, .int v3)]) C dX10_scoresOf_30 rfl (by decide) rfl ?_
      refine g_iinc (q := 3) (v := v3 + (1 : Int32)) (lv' := [(3, .int (v3 + (1 : Int32))), (2, .int (v2 + (0 : Int32))), (0, .ref (oa (gw Γ) 95)), (1, .int v1)]) C dX10_scoresOf_31 rfl rfl (by decide) rfl ?_
      refine g_goto (tgt := 4) C dX10_scoresOf_34 (by decide) ?_
      refine g_sub [2, 3, 1, 0] rfl ?_
      exact hrec v1 (v2 + (0 : Int32)) (v3 + (1 : Int32)) m_1 b h hE
    · replace h := it_f c_2 h
      refine g_iconst (v := (1 : Int32)) C dX10_scoresOf_24 (by decide) ?_
      refine g_goto (tgt := 29) C dX10_scoresOf_25 (by decide) ?_
      refine g_iadd C dX10_scoresOf_29 ?_
      refine g_istore_n (lv' := [(2, .int (v2 + (1 : Int32))), (0, .ref (oa (gw Γ) 95)), (1, .int v1), (3, .int v3)]) C dX10_scoresOf_30 rfl (by decide) rfl ?_
      refine g_iinc (q := 3) (v := v3 + (1 : Int32)) (lv' := [(3, .int (v3 + (1 : Int32))), (2, .int (v2 + (1 : Int32))), (0, .ref (oa (gw Γ) 95)), (1, .int v1)]) C dX10_scoresOf_31 rfl rfl (by decide) rfl ?_
      refine g_goto (tgt := 4) C dX10_scoresOf_34 (by decide) ?_
      refine g_sub [2, 3, 1, 0] rfl ?_
      exact hrec v1 (v2 + (1 : Int32)) (v3 + (1 : Int32)) m_1 b h hE
theorem lt_X10_scoresOf_4 (N : Nat) (Γ : Gc) (C : Cx Γ cX10_scoresOf 4 RX10 (rmK 2 44 0)) : ∀ (n : Nat) (v1 : Int32) (v2 : Int32) (v3 : Int32) (m : Mem) (b : Int32 × Mem), L_X10_scoresOf_4 N n v1 v2 v3 m = some b → Ex_X10_scoresOf_4 Γ 0 b → G Γ 4 0 m 4 [(0, .ref (oa (gw Γ) 95)), (1, .int v1), (2, .int v2), (3, .int v3)] [] := by
  intro n
  induction n with
  | zero =>
    intro v1 v2 v3 m b h
    have h9 : (none : Option (Int32 × Mem)) = some b := h
    cases h9
  | succ n ih => intro v1 v2 v3 m b h hE; exact t_X10_scoresOf_4 N Γ C (L_X10_scoresOf_4 N n) b hE ih v1 v2 v3 m h
set_option maxRecDepth 100000 in
set_option maxHeartbeats 4000000 in
theorem t_X10_scoresOf (N : Nat) (Γ : Gc) (C : Cx Γ cX10_scoresOf 4 RX10 (rmK 2 44 0)) (v1 : Int32) (m : Mem) (b : Int32 × Mem) (h : f_X10_scoresOf N v1 m = some b) (hE : EIn Γ 4 cX10_scoresOf b) : G Γ 4 0 m 0 [(0, .ref (oa (gw Γ) 95)), (1, .int v1)] [] := by
  unfold f_X10_scoresOf at h
  refine g_iconst (v := (0 : Int32)) C dX10_scoresOf_0 (by decide) ?_
  refine g_istore_n (lv' := [(2, .int (0 : Int32)), (0, .ref (oa (gw Γ) 95)), (1, .int v1)]) C dX10_scoresOf_1 rfl (by decide) rfl ?_
  refine g_iconst (v := (0 : Int32)) C dX10_scoresOf_2 (by decide) ?_
  refine g_istore_n (lv' := [(3, .int (0 : Int32)), (2, .int (0 : Int32)), (0, .ref (oa (gw Γ) 95)), (1, .int v1)]) C dX10_scoresOf_3 rfl (by decide) rfl ?_
  obtain ⟨v2_4, m_4, hx, h⟩ := l2_some h
  refine g_sub [2, 3, 1, 0] rfl ?_
  refine lt_X10_scoresOf_4 N Γ C N v1 (0 : Int32) (0 : Int32) m _ hx ?_
  intro z2 m9 e9
  cases e9
  refine g_iload_n C dX10_scoresOf_37 0 rfl rfl ?_
  obtain rfl := Option.some.inj h
  exact hE 38 _ dX10_scoresOf_38
theorem c_X10_scoresOf (N : Nat) (l : Launch) (hst : l.stackTraces = false) (w : Om) (v1 : Int32) (m : Mem) (o : Int32 × Mem) (h : f_X10_scoresOf N v1 m = some o) : KI l yX10_scoresOf cX10_scoresOf 4 (some .int) 2 44 w [.ref (oa w 95), .int v1] m o.1 o.2 := KI_of hst (by decide +kernel) RX10 rfl (Nat.le_of_ble_eq_true rfl) (fun Γ hw hl C hE => by
  subst hw; subst hl
  exact t_X10_scoresOf N Γ C v1 m o h hE)
def Ex_X10_normal_4 (Γ : Gc) (cs : Nat) (b : Int32 × Int32 × Mem) : Prop := (∀ (y1 : Int32) (y2 : Int32) (m' : Mem), b = (y1, y2, m') → G Γ 4 cs m' 42 [(0, .ref (oa (gw Γ) 95)), (1, .int y1), (2, .int y2)] [])
set_option maxRecDepth 100000 in
set_option maxHeartbeats 4000000 in
theorem t_X10_normal_4 (N : Nat) (Γ : Gc) (C : Cx Γ cX10_normal 4 RX10 (rmK 3 67 0)) (rc : Int32 → Int32 → Int32 → Mem → Option (Int32 × Int32 × Mem)) (b : Int32 × Int32 × Mem) (hE : Ex_X10_normal_4 Γ 0 b) (hrec : ∀ (v1 : Int32) (v2 : Int32) (v3 : Int32) (m : Mem) (b : Int32 × Int32 × Mem), rc v1 v2 v3 m = some b → Ex_X10_normal_4 Γ 0 b → G Γ 4 0 m 4 [(0, .ref (oa (gw Γ) 95)), (1, .int v1), (2, .int v2), (3, .int v3)] []) (v1 : Int32) (v2 : Int32) (v3 : Int32) (m : Mem) (h : T_X10_normal_4 N rc v1 v2 v3 m = some b) : G Γ 4 0 m 4 [(0, .ref (oa (gw Γ) 95)), (1, .int v1), (2, .int v2), (3, .int v3)] [] := by
  unfold T_X10_normal_4 at h
  refine g_iload_n C dX10_normal_4 3 rfl rfl ?_
  refine g_aload_n C dX10_normal_5 0 rfl rfl ?_
  refine g_getT (b := 96) (ci := 10) (j := 1) C dX10_normal_6 rfl (by decide) rfl inT_X10 (by decide) k_506 rfl rfl rfl rfl ?_
  refine g_iconst (v := (1 : Int32)) C dX10_normal_9 (by decide) ?_
  refine g_iald' (j := 1) C dX10_normal_10 (okA_of rfl rfl (by decide)) (by decide) ?_
  refine g_icmp_ge (tgt := 42) C dX10_normal_11 (by decide) (fun c_4 => ?_) (fun c_4 => ?_)
  · replace h := it_t c_4 h
    obtain rfl := Option.some.inj h
    refine g_sub [0, 1, 2] rfl ?_
    exact hE _ _ _ rfl
  · replace h := it_f c_4 h
    refine g_iload_n C dX10_normal_14 2 rfl rfl ?_
    refine g_aload_n C dX10_normal_15 0 rfl rfl ?_
    refine g_iload_n C dX10_normal_16 3 rfl rfl ?_
    refine g_iload_n C dX10_normal_17 1 rfl rfl ?_
    obtain ⟨r_1, m_1, hk_1, h⟩ := b2_some h
    refine g_vI (As := [.int v3, .int v1]) (a := 95) (ci := 10) C dX10_normal_18 mf_X10_isScored k_699 rfl (by decide) ⟨by decide, by decide⟩ rfl rfl (Nat.le_of_ble_eq_true rfl) (by decide) rfl (c_X10_isScored N (gl Γ) C.2.2.2.2 (gw Γ) v3 v1 m _ hk_1) ?_
    refine g_if_eq (tgt := 33) C dX10_normal_21 (by decide) (fun c_3 => ?_) (fun c_3 => ?_)
    · replace h := it_t c_3 h
      refine g_iconst (v := (0 : Int32)) C dX10_normal_33 (by decide) ?_
      refine g_iadd C dX10_normal_34 ?_
      refine g_istore_n (lv' := [(2, .int (v2 + (0 : Int32))), (0, .ref (oa (gw Γ) 95)), (1, .int v1), (3, .int v3)]) C dX10_normal_35 rfl (by decide) rfl ?_
      refine g_iinc (q := 3) (v := v3 + (1 : Int32)) (lv' := [(3, .int (v3 + (1 : Int32))), (2, .int (v2 + (0 : Int32))), (0, .ref (oa (gw Γ) 95)), (1, .int v1)]) C dX10_normal_36 rfl rfl (by decide) rfl ?_
      refine g_goto (tgt := 4) C dX10_normal_39 (by decide) ?_
      refine g_sub [2, 3, 1, 0] rfl ?_
      exact hrec v1 (v2 + (0 : Int32)) (v3 + (1 : Int32)) m_1 b h hE
    · replace h := it_f c_3 h
      refine g_aload_n C dX10_normal_24 0 rfl rfl ?_
      refine g_iload_n C dX10_normal_25 3 rfl rfl ?_
      refine g_iload_n C dX10_normal_26 1 rfl rfl ?_
      obtain ⟨r_2, m_2, hk_2, h⟩ := b2_some h
      refine g_vI (As := [.int v3, .int v1]) (a := 95) (ci := 10) C dX10_normal_27 mf_X10_adjust k_703 rfl (by decide) ⟨by decide, by decide⟩ rfl rfl (Nat.le_of_ble_eq_true rfl) (by decide) rfl (c_X10_adjust N (gl Γ) C.2.2.2.2 (gw Γ) v3 v1 m_1 _ hk_2) ?_
      refine g_goto (tgt := 34) C dX10_normal_30 (by decide) ?_
      refine g_iadd C dX10_normal_34 ?_
      refine g_istore_n (lv' := [(2, .int (v2 + r_2)), (0, .ref (oa (gw Γ) 95)), (1, .int v1), (3, .int v3)]) C dX10_normal_35 rfl (by decide) rfl ?_
      refine g_iinc (q := 3) (v := v3 + (1 : Int32)) (lv' := [(3, .int (v3 + (1 : Int32))), (2, .int (v2 + r_2)), (0, .ref (oa (gw Γ) 95)), (1, .int v1)]) C dX10_normal_36 rfl rfl (by decide) rfl ?_
      refine g_goto (tgt := 4) C dX10_normal_39 (by decide) ?_
      refine g_sub [2, 3, 1, 0] rfl ?_
      exact hrec v1 (v2 + r_2) (v3 + (1 : Int32)) m_2 b h hE
theorem lt_X10_normal_4 (N : Nat) (Γ : Gc) (C : Cx Γ cX10_normal 4 RX10 (rmK 3 67 0)) : ∀ (n : Nat) (v1 : Int32) (v2 : Int32) (v3 : Int32) (m : Mem) (b : Int32 × Int32 × Mem), L_X10_normal_4 N n v1 v2 v3 m = some b → Ex_X10_normal_4 Γ 0 b → G Γ 4 0 m 4 [(0, .ref (oa (gw Γ) 95)), (1, .int v1), (2, .int v2), (3, .int v3)] [] := by
  intro n
  induction n with
  | zero =>
    intro v1 v2 v3 m b h
    have h9 : (none : Option (Int32 × Int32 × Mem)) = some b := h
    cases h9
  | succ n ih => intro v1 v2 v3 m b h hE; exact t_X10_normal_4 N Γ C (L_X10_normal_4 N n) b hE ih v1 v2 v3 m h
set_option maxRecDepth 100000 in
set_option maxHeartbeats 4000000 in
theorem t_X10_normal (N : Nat) (Γ : Gc) (C : Cx Γ cX10_normal 4 RX10 (rmK 3 67 0)) (v1 : Int32) (m : Mem) (b : Int32 × Mem) (h : f_X10_normal N v1 m = some b) (hE : EIn Γ 4 cX10_normal b) : G Γ 4 0 m 0 [(0, .ref (oa (gw Γ) 95)), (1, .int v1)] [] := by
  unfold f_X10_normal at h
  refine g_iconst (v := (0 : Int32)) C dX10_normal_0 (by decide) ?_
  refine g_istore_n (lv' := [(2, .int (0 : Int32)), (0, .ref (oa (gw Γ) 95)), (1, .int v1)]) C dX10_normal_1 rfl (by decide) rfl ?_
  refine g_iconst (v := (0 : Int32)) C dX10_normal_2 (by decide) ?_
  refine g_istore_n (lv' := [(3, .int (0 : Int32)), (2, .int (0 : Int32)), (0, .ref (oa (gw Γ) 95)), (1, .int v1)]) C dX10_normal_3 rfl (by decide) rfl ?_
  obtain ⟨v1_5, v2_5, m_5, hx, h⟩ := l3_some h
  refine g_sub [2, 3, 1, 0] rfl ?_
  refine lt_X10_normal_4 N Γ C N v1 (0 : Int32) (0 : Int32) m _ hx ?_
  intro z1 z2 m9 e9
  cases e9
  refine g_iload_n C dX10_normal_42 2 rfl rfl ?_
  refine g_i2l C dX10_normal_43 ?_
  refine g_aload_n C dX10_normal_44 0 rfl rfl ?_
  refine g_iload_n C dX10_normal_45 1 rfl rfl ?_
  obtain ⟨r_6, m_6, hk_6, h⟩ := b2_some h
  refine g_vI (As := [.int v1_5]) (a := 95) (ci := 10) C dX10_normal_46 mf_X10_scoresOf k_707 rfl (by decide) ⟨by decide, by decide⟩ rfl rfl (Nat.le_of_ble_eq_true rfl) (by decide) rfl (c_X10_scoresOf N (gl Γ) C.2.2.2.2 (gw Γ) v1_5 m_5 _ hk_6) ?_
  refine g_i2l C dX10_normal_49 ?_
  obtain ⟨r_7, m_7, hk_7, h⟩ := b2_some h
  refine g_sI (As := [.long v2_5.toInt64, .long r_6.toInt64]) C dX10_normal_50 mf_X10_down k_696 ⟨by decide, by decide⟩ rfl rfl (Nat.le_of_ble_eq_true rfl) (by decide) (c_X10_down N (gl Γ) C.2.2.2.2 (gw Γ) v2_5.toInt64 r_6.toInt64 m_6 _ hk_7) ?_
  obtain rfl := Option.some.inj h
  exact hE 53 _ dX10_normal_53
theorem c_X10_normal (N : Nat) (l : Launch) (hst : l.stackTraces = false) (w : Om) (v1 : Int32) (m : Mem) (o : Int32 × Mem) (h : f_X10_normal N v1 m = some o) : KI l yX10_normal cX10_normal 4 (some .int) 3 67 w [.ref (oa w 95), .int v1] m o.1 o.2 := KI_of hst (by decide +kernel) RX10 rfl (Nat.le_of_ble_eq_true rfl) (fun Γ hw hl C hE => by
  subst hw; subst hl
  exact t_X10_normal N Γ C v1 m o h hE)
set_option maxRecDepth 100000 in
set_option maxHeartbeats 4000000 in
theorem t_X10_normalized_26 (N : Nat) (Γ : Gc) (C : Cx Γ cX10_normalized 2 RX10 (rmK 4 90 0)) (b : Int32 × Mem) (hE : EIn Γ 2 cX10_normalized b) (v1 : Int32) (s0 : Int32) (m : Mem) (h : B_X10_normalized_26 N v1 s0 m = some b) : G Γ 2 0 m 26 [(0, .ref (oa (gw Γ) 95)), (1, .int v1)] [.int s0, .ref (oa (gw Γ) 95)] := by
  unfold B_X10_normalized_26 at h
  obtain ⟨m_3, e_3, h⟩ := wr_some h
  refine g_putI (ci := 10) (j := 0) C dX10_normalized_26 rfl (by decide) rfl inT_X10 (by decide) k_505 tyX10 tyX10_ok nmX10 rfl rfl rfl rfl rfl (G_m e_3 ?_)
  refine g_aload_n C dX10_normalized_29 0 rfl rfl ?_
  refine g_getI (ci := 10) (j := 0) C dX10_normalized_30 rfl (by decide) rfl inT_X10 (by decide) k_505 rfl rfl ?_
  refine g_if_le (tgt := 40) C dX10_normalized_33 (by decide) (fun c_5 => ?_) (fun c_5 => ?_)
  · replace h := it_t c_5 h
    refine g_aload_n C dX10_normalized_40 0 rfl rfl ?_
    refine g_iload_n C dX10_normalized_41 1 rfl rfl ?_
    obtain ⟨r_4, m_4, hk_4, h⟩ := b2_some h
    refine g_vI (As := [.int v1]) (a := 95) (ci := 10) C dX10_normalized_42 mf_X10_normal k_711 rfl (by decide) ⟨by decide, by decide⟩ rfl rfl (Nat.le_of_ble_eq_true rfl) (by decide) rfl (c_X10_normal N (gl Γ) C.2.2.2.2 (gw Γ) v1 m_3 _ hk_4) ?_
    obtain rfl := Option.some.inj h
    exact hE 45 _ dX10_normalized_45
  · replace h := it_f c_5 h
    refine g_iconst (v := (0 : Int32)) C dX10_normalized_36 (by decide) ?_
    refine g_goto (tgt := 45) C dX10_normalized_37 (by decide) ?_
    obtain rfl := Option.some.inj h
    exact hE 45 _ dX10_normalized_45
set_option maxRecDepth 100000 in
set_option maxHeartbeats 4000000 in
theorem t_X10_normalized (N : Nat) (Γ : Gc) (C : Cx Γ cX10_normalized 2 RX10 (rmK 4 90 0)) (v1 : Int32) (m : Mem) (b : Int32 × Mem) (h : f_X10_normalized N v1 m = some b) (hE : EIn Γ 2 cX10_normalized b) : G Γ 2 0 m 0 [(0, .ref (oa (gw Γ) 95)), (1, .int v1)] [] := by
  unfold f_X10_normalized at h
  refine g_aload_n C dX10_normalized_0 0 rfl rfl ?_
  refine g_aload_n C dX10_normalized_1 0 rfl rfl ?_
  refine g_iload_n C dX10_normalized_2 1 rfl rfl ?_
  obtain ⟨r_1, m_1, hk_1, h⟩ := b2_some h
  refine g_vI (As := [.int v1]) (a := 95) (ci := 10) C dX10_normalized_3 mf_X10_isProposal k_629 rfl (by decide) ⟨by decide, by decide⟩ rfl rfl (Nat.le_of_ble_eq_true rfl) (by decide) rfl (c_X10_isProposal N (gl Γ) C.2.2.2.2 (gw Γ) v1 m _ hk_1) ?_
  refine g_if_ne (tgt := 13) C dX10_normalized_6 (by decide) (fun c_7 => ?_) (fun c_7 => ?_)
  · replace h := it_f c_7 h
    refine g_aload_n C dX10_normalized_13 0 rfl rfl ?_
    refine g_iload_n C dX10_normalized_14 1 rfl rfl ?_
    obtain ⟨r_2, m_2, hk_2, h⟩ := b2_some h
    refine g_vI (As := [.int v1]) (a := 95) (ci := 10) C dX10_normalized_15 mf_X10_scoresOf k_707 rfl (by decide) ⟨by decide, by decide⟩ rfl rfl (Nat.le_of_ble_eq_true rfl) (by decide) rfl (c_X10_scoresOf N (gl Γ) C.2.2.2.2 (gw Γ) v1 m_1 _ hk_2) ?_
    refine g_if_le (tgt := 25) C dX10_normalized_18 (by decide) (fun c_6 => ?_) (fun c_6 => ?_)
    · replace h := it_t c_6 h
      refine g_iconst (v := (2 : Int32)) C dX10_normalized_25 (by decide) ?_
      refine g_sub [0, 1] rfl ?_
      exact t_X10_normalized_26 N Γ C b hE v1 (2 : Int32) m_2 h
    · replace h := it_f c_6 h
      refine g_iconst (v := (0 : Int32)) C dX10_normalized_21 (by decide) ?_
      refine g_goto (tgt := 26) C dX10_normalized_22 (by decide) ?_
      refine g_sub [0, 1] rfl ?_
      exact t_X10_normalized_26 N Γ C b hE v1 (0 : Int32) m_2 h
  · replace h := it_t c_7 h
    refine g_iconst (v := (1 : Int32)) C dX10_normalized_9 (by decide) ?_
    refine g_goto (tgt := 26) C dX10_normalized_10 (by decide) ?_
    refine g_sub [0, 1] rfl ?_
    exact t_X10_normalized_26 N Γ C b hE v1 (1 : Int32) m_1 h
theorem c_X10_normalized (N : Nat) (l : Launch) (hst : l.stackTraces = false) (w : Om) (v1 : Int32) (m : Mem) (o : Int32 × Mem) (h : f_X10_normalized N v1 m = some o) : KI l yX10_normalized cX10_normalized 2 (some .int) 4 90 w [.ref (oa w 95), .int v1] m o.1 o.2 := KI_of hst (by decide +kernel) RX10 rfl (Nat.le_of_ble_eq_true rfl) (fun Γ hw hl C hE => by
  subst hw; subst hl
  exact t_X10_normalized N Γ C v1 m o h hE)
def Ex_X10_leniency_85 (Γ : Gc) (cs : Nat) (b : Int32 × Int32 × Int32 × Int32 × Int32 × Mem) : Prop := (∀ (y1 : Int32) (y2 : Int32) (y3 : Int32) (y4 : Int32) (y5 : Int32) (m' : Mem), b = (y1, y2, y3, y4, y5, m') → G Γ 8 cs m' 156 [(0, .ref (oa (gw Γ) 95)), (1, .int y1), (2, .int y2), (3, .int y3), (4, .int y4), (5, .int y5)] [])
set_option maxRecDepth 100000 in
set_option maxHeartbeats 4000000 in
theorem t_X10_leniency_116 (N : Nat) (Γ : Gc) (C : Cx Γ cX10_leniency 8 RX10 (rmK 2 45 0)) (rc : Int32 → Int32 → Int32 → Int32 → Int32 → Int32 → Int32 → Mem → Option (Int32 × Int32 × Int32 × Int32 × Int32 × Mem)) (b : Int32 × Int32 × Int32 × Int32 × Int32 × Mem) (hE : Ex_X10_leniency_85 Γ 0 b) (hrec : ∀ (v1 : Int32) (v2 : Int32) (v3 : Int32) (v4 : Int32) (v5 : Int32) (v6 : Int32) (v7 : Int32) (m : Mem) (b : Int32 × Int32 × Int32 × Int32 × Int32 × Mem), rc v1 v2 v3 v4 v5 v6 v7 m = some b → Ex_X10_leniency_85 Γ 0 b → G Γ 8 0 m 85 [(0, .ref (oa (gw Γ) 95)), (1, .int v1), (2, .int v2), (3, .int v3), (4, .int v4), (5, .int v5), (6, .int v6), (7, .int v7)] []) (v1 : Int32) (v3 : Int32) (v4 : Int32) (v5 : Int32) (v6 : Int32) (v7 : Int32) (s0 : Int32) (s1 : Int32) (m : Mem) (h : B_X10_leniency_116 N rc v1 v3 v4 v5 v6 v7 s0 s1 m = some b) : G Γ 8 0 m 116 [(0, .ref (oa (gw Γ) 95)), (1, .int v1), (3, .int v3), (4, .int v4), (5, .int v5), (6, .int v6), (7, .int v7)] [.int s0, .int s1] := by
  unfold B_X10_leniency_116 at h
  refine g_iadd C dX10_leniency_116 ?_
  refine g_istore_n (lv' := [(2, .int (s1 + s0)), (0, .ref (oa (gw Γ) 95)), (1, .int v1), (3, .int v3), (4, .int v4), (5, .int v5), (6, .int v6), (7, .int v7)]) C dX10_leniency_117 rfl (by decide) rfl ?_
  refine g_iload_n C dX10_leniency_118 3 rfl rfl ?_
  refine g_aload_n C dX10_leniency_119 1 rfl rfl ?_
  refine g_iload C dX10_leniency_120 5 rfl ?_
  refine g_iload C dX10_leniency_122 7 rfl ?_
  obtain ⟨r_6, m_6, hk_6, h⟩ := b2_some h
  refine g_vI (As := [.int v5, .int v7]) (a := 95) (ci := 10) C dX10_leniency_124 mf_X10_score k_601 rfl (by decide) ⟨by decide, by decide⟩ rfl rfl (Nat.le_of_ble_eq_true rfl) (by decide) rfl (c_X10_score N (gl Γ) C.2.2.2.2 (gw Γ) v5 v7 m _ hk_6) ?_
  refine g_iadd C dX10_leniency_127 ?_
  refine g_istore_n (lv' := [(3, .int (v3 + r_6)), (2, .int (s1 + s0)), (0, .ref (oa (gw Γ) 95)), (1, .int v1), (4, .int v4), (5, .int v5), (6, .int v6), (7, .int v7)]) C dX10_leniency_128 rfl (by decide) rfl ?_
  refine g_iload C dX10_leniency_129 4 rfl ?_
  refine g_aload_n C dX10_leniency_131 2 rfl rfl ?_
  refine g_iload C dX10_leniency_132 5 rfl ?_
  refine g_iload C dX10_leniency_134 7 rfl ?_
  obtain ⟨r_7, m_7, hk_7, h⟩ := b2_some h
  refine g_vI (As := [.int v5, .int v7]) (a := 95) (ci := 10) C dX10_leniency_136 mf_X10_isScored k_699 rfl (by decide) ⟨by decide, by decide⟩ rfl rfl (Nat.le_of_ble_eq_true rfl) (by decide) rfl (c_X10_isScored N (gl Γ) C.2.2.2.2 (gw Γ) v5 v7 m_6 _ hk_7) ?_
  refine g_if_eq (tgt := 146) C dX10_leniency_139 (by decide) (fun c_8 => ?_) (fun c_8 => ?_)
  · replace h := it_t c_8 h
    refine g_iconst (v := (0 : Int32)) C dX10_leniency_146 (by decide) ?_
    refine g_iadd C dX10_leniency_147 ?_
    refine g_istore (lv' := [(4, .int (v4 + (0 : Int32))), (3, .int (v3 + r_6)), (2, .int (s1 + s0)), (0, .ref (oa (gw Γ) 95)), (1, .int v1), (5, .int v5), (6, .int v6), (7, .int v7)]) C dX10_leniency_148 (by decide) rfl ?_
    refine g_iinc (q := 7) (v := v7 + (1 : Int32)) (lv' := [(7, .int (v7 + (1 : Int32))), (4, .int (v4 + (0 : Int32))), (3, .int (v3 + r_6)), (2, .int (s1 + s0)), (0, .ref (oa (gw Γ) 95)), (1, .int v1), (5, .int v5), (6, .int v6)]) C dX10_leniency_150 rfl rfl (by decide) rfl ?_
    refine g_goto (tgt := 85) C dX10_leniency_153 (by decide) ?_
    refine g_sub [4, 5, 3, 2, 1, 6, 7, 0] rfl ?_
    exact hrec v1 (s1 + s0) (v3 + r_6) (v4 + (0 : Int32)) v5 v6 (v7 + (1 : Int32)) m_7 b h hE
  · replace h := it_f c_8 h
    refine g_iconst (v := (1 : Int32)) C dX10_leniency_142 (by decide) ?_
    refine g_goto (tgt := 147) C dX10_leniency_143 (by decide) ?_
    refine g_iadd C dX10_leniency_147 ?_
    refine g_istore (lv' := [(4, .int (v4 + (1 : Int32))), (3, .int (v3 + r_6)), (2, .int (s1 + s0)), (0, .ref (oa (gw Γ) 95)), (1, .int v1), (5, .int v5), (6, .int v6), (7, .int v7)]) C dX10_leniency_148 (by decide) rfl ?_
    refine g_iinc (q := 7) (v := v7 + (1 : Int32)) (lv' := [(7, .int (v7 + (1 : Int32))), (4, .int (v4 + (1 : Int32))), (3, .int (v3 + r_6)), (2, .int (s1 + s0)), (0, .ref (oa (gw Γ) 95)), (1, .int v1), (5, .int v5), (6, .int v6)]) C dX10_leniency_150 rfl rfl (by decide) rfl ?_
    refine g_goto (tgt := 85) C dX10_leniency_153 (by decide) ?_
    refine g_sub [4, 5, 3, 2, 1, 6, 7, 0] rfl ?_
    exact hrec v1 (s1 + s0) (v3 + r_6) (v4 + (1 : Int32)) v5 v6 (v7 + (1 : Int32)) m_7 b h hE
set_option maxRecDepth 100000 in
set_option maxHeartbeats 4000000 in
theorem t_X10_leniency_85 (N : Nat) (Γ : Gc) (C : Cx Γ cX10_leniency 8 RX10 (rmK 2 45 0)) (rc : Int32 → Int32 → Int32 → Int32 → Int32 → Int32 → Int32 → Mem → Option (Int32 × Int32 × Int32 × Int32 × Int32 × Mem)) (b : Int32 × Int32 × Int32 × Int32 × Int32 × Mem) (hE : Ex_X10_leniency_85 Γ 0 b) (hrec : ∀ (v1 : Int32) (v2 : Int32) (v3 : Int32) (v4 : Int32) (v5 : Int32) (v6 : Int32) (v7 : Int32) (m : Mem) (b : Int32 × Int32 × Int32 × Int32 × Int32 × Mem), rc v1 v2 v3 v4 v5 v6 v7 m = some b → Ex_X10_leniency_85 Γ 0 b → G Γ 8 0 m 85 [(0, .ref (oa (gw Γ) 95)), (1, .int v1), (2, .int v2), (3, .int v3), (4, .int v4), (5, .int v5), (6, .int v6), (7, .int v7)] []) (v1 : Int32) (v2 : Int32) (v3 : Int32) (v4 : Int32) (v5 : Int32) (v6 : Int32) (v7 : Int32) (m : Mem) (h : T_X10_leniency_85 N rc v1 v2 v3 v4 v5 v6 v7 m = some b) : G Γ 8 0 m 85 [(0, .ref (oa (gw Γ) 95)), (1, .int v1), (2, .int v2), (3, .int v3), (4, .int v4), (5, .int v5), (6, .int v6), (7, .int v7)] [] := by
  unfold T_X10_leniency_85 at h
  refine g_iload C dX10_leniency_85 7 rfl ?_
  refine g_bipush (v := (16 : Int32)) C dX10_leniency_87 (by decide) ?_
  refine g_icmp_ge (tgt := 156) C dX10_leniency_89 (by decide) (fun c_12 => ?_) (fun c_12 => ?_)
  · replace h := it_t c_12 h
    obtain rfl := Option.some.inj h
    refine g_sub [0, 1, 2, 3, 4, 5] rfl ?_
    exact hE _ _ _ _ _ _ rfl
  · replace h := it_f c_12 h
    refine g_iload C dX10_leniency_92 6 rfl ?_
    refine g_if_eq (tgt := 156) C dX10_leniency_94 (by decide) (fun c_11 => ?_) (fun c_11 => ?_)
    · replace h := it_t c_11 h
      obtain rfl := Option.some.inj h
      refine g_sub [0, 1, 2, 3, 4, 5] rfl ?_
      exact hE _ _ _ _ _ _ rfl
    · replace h := it_f c_11 h
      refine g_iload_n C dX10_leniency_97 2 rfl rfl ?_
      refine g_iload C dX10_leniency_98 5 rfl ?_
      refine g_iload_n C dX10_leniency_100 1 rfl rfl ?_
      refine g_icmp_ne (tgt := 115) C dX10_leniency_101 (by decide) (fun c_10 => ?_) (fun c_10 => ?_)
      · replace h := it_f c_10 h
        refine g_iconst (v := (0 : Int32)) C dX10_leniency_115 (by decide) ?_
        refine g_sub [0, 1, 3, 4, 5, 6, 7] rfl ?_
        exact t_X10_leniency_116 N Γ C rc b hE hrec v1 v3 v4 v5 v6 v7 (0 : Int32) v2 m h
      · replace h := it_t c_10 h
        refine g_aload_n C dX10_leniency_104 0 rfl rfl ?_
        refine g_iload C dX10_leniency_105 5 rfl ?_
        refine g_iload C dX10_leniency_107 7 rfl ?_
        obtain ⟨r_9, m_9, hk_9, h⟩ := b2_some h
        refine g_vI (As := [.int v5, .int v7]) (a := 95) (ci := 10) C dX10_leniency_109 mf_X10_score k_601 rfl (by decide) ⟨by decide, by decide⟩ rfl rfl (Nat.le_of_ble_eq_true rfl) (by decide) rfl (c_X10_score N (gl Γ) C.2.2.2.2 (gw Γ) v5 v7 m _ hk_9) ?_
        refine g_goto (tgt := 116) C dX10_leniency_112 (by decide) ?_
        refine g_sub [0, 1, 3, 4, 5, 6, 7] rfl ?_
        exact t_X10_leniency_116 N Γ C rc b hE hrec v1 v3 v4 v5 v6 v7 r_9 v2 m_9 h
theorem lt_X10_leniency_85 (N : Nat) (Γ : Gc) (C : Cx Γ cX10_leniency 8 RX10 (rmK 2 45 0)) : ∀ (n : Nat) (v1 : Int32) (v2 : Int32) (v3 : Int32) (v4 : Int32) (v5 : Int32) (v6 : Int32) (v7 : Int32) (m : Mem) (b : Int32 × Int32 × Int32 × Int32 × Int32 × Mem), L_X10_leniency_85 N n v1 v2 v3 v4 v5 v6 v7 m = some b → Ex_X10_leniency_85 Γ 0 b → G Γ 8 0 m 85 [(0, .ref (oa (gw Γ) 95)), (1, .int v1), (2, .int v2), (3, .int v3), (4, .int v4), (5, .int v5), (6, .int v6), (7, .int v7)] [] := by
  intro n
  induction n with
  | zero =>
    intro v1 v2 v3 v4 v5 v6 v7 m b h
    have h9 : (none : Option (Int32 × Int32 × Int32 × Int32 × Int32 × Mem)) = some b := h
    cases h9
  | succ n ih => intro v1 v2 v3 v4 v5 v6 v7 m b h hE; exact t_X10_leniency_85 N Γ C (L_X10_leniency_85 N n) b hE ih v1 v2 v3 v4 v5 v6 v7 m h
def Ex_X10_leniency_48 (Γ : Gc) (cs : Nat) (b : Int32 × Int32 × Int32 × Int32 × Mem) : Prop := (∀ (y1 : Int32) (y2 : Int32) (y3 : Int32) (y4 : Int32) (m' : Mem), b = (y1, y2, y3, y4, m') → G Γ 8 cs m' 162 [(0, .ref (oa (gw Γ) 95)), (1, .int y1), (2, .int y2), (3, .int y3), (4, .int y4)] [])
set_option maxRecDepth 100000 in
set_option maxHeartbeats 4000000 in
theorem t_X10_leniency_80 (N : Nat) (Γ : Gc) (C : Cx Γ cX10_leniency 8 RX10 (rmK 2 45 0)) (rc : Int32 → Int32 → Int32 → Int32 → Int32 → Mem → Option (Int32 × Int32 × Int32 × Int32 × Mem)) (b : Int32 × Int32 × Int32 × Int32 × Mem) (hE : Ex_X10_leniency_48 Γ 0 b) (hrec : ∀ (v1 : Int32) (v2 : Int32) (v3 : Int32) (v4 : Int32) (v5 : Int32) (m : Mem) (b : Int32 × Int32 × Int32 × Int32 × Mem), rc v1 v2 v3 v4 v5 m = some b → Ex_X10_leniency_48 Γ 0 b → G Γ 8 0 m 48 [(0, .ref (oa (gw Γ) 95)), (1, .int v1), (2, .int v2), (3, .int v3), (4, .int v4), (5, .int v5)] []) (v1 : Int32) (v2 : Int32) (v3 : Int32) (v4 : Int32) (v5 : Int32) (s0 : Int32) (m : Mem) (h : B_X10_leniency_80 N rc v1 v2 v3 v4 v5 s0 m = some b) : G Γ 8 0 m 80 [(0, .ref (oa (gw Γ) 95)), (1, .int v1), (2, .int v2), (3, .int v3), (4, .int v4), (5, .int v5)] [.int s0] := by
  unfold B_X10_leniency_80 at h
  refine g_istore (lv' := [(6, .int s0), (0, .ref (oa (gw Γ) 95)), (1, .int v1), (2, .int v2), (3, .int v3), (4, .int v4), (5, .int v5)]) C dX10_leniency_80 (by decide) rfl ?_
  refine g_iconst (v := (0 : Int32)) C dX10_leniency_82 (by decide) ?_
  refine g_istore (lv' := [(7, .int (0 : Int32)), (6, .int s0), (0, .ref (oa (gw Γ) 95)), (1, .int v1), (2, .int v2), (3, .int v3), (4, .int v4), (5, .int v5)]) C dX10_leniency_83 (by decide) rfl ?_
  obtain ⟨v1_13, v2_13, v3_13, v4_13, v5_13, m_13, hx, h⟩ := l6_some h
  refine g_sub [2, 3, 4, 5, 6, 7, 1, 0] rfl ?_
  refine lt_X10_leniency_85 N Γ C N v1 v2 v3 v4 v5 s0 (0 : Int32) m _ hx ?_
  intro z1 z2 z3 z4 z5 m9 e9
  cases e9
  refine g_iinc (q := 5) (v := v5_13 + (1 : Int32)) (lv' := [(5, .int (v5_13 + (1 : Int32))), (0, .ref (oa (gw Γ) 95)), (1, .int v1_13), (2, .int v2_13), (3, .int v3_13), (4, .int v4_13)]) C dX10_leniency_156 rfl rfl (by decide) rfl ?_
  refine g_goto (tgt := 48) C dX10_leniency_159 (by decide) ?_
  refine g_sub [1, 2, 3, 4, 5, 0] rfl ?_
  exact hrec v1_13 v2_13 v3_13 v4_13 (v5_13 + (1 : Int32)) m_13 b h hE
set_option maxRecDepth 100000 in
set_option maxHeartbeats 4000000 in
theorem t_X10_leniency_48 (N : Nat) (Γ : Gc) (C : Cx Γ cX10_leniency 8 RX10 (rmK 2 45 0)) (rc : Int32 → Int32 → Int32 → Int32 → Int32 → Mem → Option (Int32 × Int32 × Int32 × Int32 × Mem)) (b : Int32 × Int32 × Int32 × Int32 × Mem) (hE : Ex_X10_leniency_48 Γ 0 b) (hrec : ∀ (v1 : Int32) (v2 : Int32) (v3 : Int32) (v4 : Int32) (v5 : Int32) (m : Mem) (b : Int32 × Int32 × Int32 × Int32 × Mem), rc v1 v2 v3 v4 v5 m = some b → Ex_X10_leniency_48 Γ 0 b → G Γ 8 0 m 48 [(0, .ref (oa (gw Γ) 95)), (1, .int v1), (2, .int v2), (3, .int v3), (4, .int v4), (5, .int v5)] []) (v1 : Int32) (v2 : Int32) (v3 : Int32) (v4 : Int32) (v5 : Int32) (m : Mem) (h : T_X10_leniency_48 N rc v1 v2 v3 v4 v5 m = some b) : G Γ 8 0 m 48 [(0, .ref (oa (gw Γ) 95)), (1, .int v1), (2, .int v2), (3, .int v3), (4, .int v4), (5, .int v5)] [] := by
  unfold T_X10_leniency_48 at h
  refine g_iload C dX10_leniency_48 5 rfl ?_
  refine g_aload_n C dX10_leniency_50 0 rfl rfl ?_
  refine g_getT (b := 96) (ci := 10) (j := 1) C dX10_leniency_51 rfl (by decide) rfl inT_X10 (by decide) k_506 rfl rfl rfl rfl ?_
  refine g_iconst (v := (1 : Int32)) C dX10_leniency_54 (by decide) ?_
  refine g_iald' (j := 1) C dX10_leniency_55 (okA_of rfl rfl (by decide)) (by decide) ?_
  refine g_icmp_ge (tgt := 162) C dX10_leniency_56 (by decide) (fun c_15 => ?_) (fun c_15 => ?_)
  · replace h := it_t c_15 h
    obtain rfl := Option.some.inj h
    refine g_sub [0, 1, 2, 3, 4] rfl ?_
    exact hE _ _ _ _ _ rfl
  · replace h := it_f c_15 h
    refine g_aload_n C dX10_leniency_59 0 rfl rfl ?_
    refine g_iload C dX10_leniency_60 5 rfl ?_
    refine g_iconst (v := (0 : Int32)) C dX10_leniency_62 (by decide) ?_
    obtain ⟨r_4, m_4, hk_4, h⟩ := b2_some h
    refine g_vI (As := [.int v5, .int (0 : Int32)]) (a := 95) (ci := 10) C dX10_leniency_63 mf_X10_reviewer k_605 rfl (by decide) ⟨by decide, by decide⟩ rfl rfl (Nat.le_of_ble_eq_true rfl) (by decide) rfl (c_X10_reviewer N (gl Γ) C.2.2.2.2 (gw Γ) v5 (0 : Int32) m _ hk_4) ?_
    refine g_aload_n C dX10_leniency_66 0 rfl rfl ?_
    refine g_iload_n C dX10_leniency_67 1 rfl rfl ?_
    refine g_iconst (v := (0 : Int32)) C dX10_leniency_68 (by decide) ?_
    obtain ⟨r_5, m_5, hk_5, h⟩ := b2_some h
    refine g_vI (As := [.int v1, .int (0 : Int32)]) (a := 95) (ci := 10) C dX10_leniency_69 mf_X10_reviewer k_605 rfl (by decide) ⟨by decide, by decide⟩ rfl rfl (Nat.le_of_ble_eq_true rfl) (by decide) rfl (c_X10_reviewer N (gl Γ) C.2.2.2.2 (gw Γ) v1 (0 : Int32) m_4 _ hk_5) ?_
    refine g_icmp_ne (tgt := 79) C dX10_leniency_72 (by decide) (fun c_14 => ?_) (fun c_14 => ?_)
    · replace h := it_f c_14 h
      refine g_iconst (v := (0 : Int32)) C dX10_leniency_79 (by decide) ?_
      refine g_sub [0, 1, 2, 3, 4, 5] rfl ?_
      exact t_X10_leniency_80 N Γ C rc b hE hrec v1 v2 v3 v4 v5 (0 : Int32) m_5 h
    · replace h := it_t c_14 h
      refine g_iconst (v := (1 : Int32)) C dX10_leniency_75 (by decide) ?_
      refine g_goto (tgt := 80) C dX10_leniency_76 (by decide) ?_
      refine g_sub [0, 1, 2, 3, 4, 5] rfl ?_
      exact t_X10_leniency_80 N Γ C rc b hE hrec v1 v2 v3 v4 v5 (1 : Int32) m_5 h
theorem lt_X10_leniency_48 (N : Nat) (Γ : Gc) (C : Cx Γ cX10_leniency 8 RX10 (rmK 2 45 0)) : ∀ (n : Nat) (v1 : Int32) (v2 : Int32) (v3 : Int32) (v4 : Int32) (v5 : Int32) (m : Mem) (b : Int32 × Int32 × Int32 × Int32 × Mem), L_X10_leniency_48 N n v1 v2 v3 v4 v5 m = some b → Ex_X10_leniency_48 Γ 0 b → G Γ 8 0 m 48 [(0, .ref (oa (gw Γ) 95)), (1, .int v1), (2, .int v2), (3, .int v3), (4, .int v4), (5, .int v5)] [] := by
  intro n
  induction n with
  | zero =>
    intro v1 v2 v3 v4 v5 m b h
    have h9 : (none : Option (Int32 × Int32 × Int32 × Int32 × Mem)) = some b := h
    cases h9
  | succ n ih => intro v1 v2 v3 v4 v5 m b h hE; exact t_X10_leniency_48 N Γ C (L_X10_leniency_48 N n) b hE ih v1 v2 v3 v4 v5 m h
set_option maxRecDepth 100000 in
set_option maxHeartbeats 4000000 in
theorem t_X10_leniency_26 (N : Nat) (Γ : Gc) (C : Cx Γ cX10_leniency 8 RX10 (rmK 2 45 0)) (b : UInt64 × Mem) (hE : EDn Γ 8 cX10_leniency b) (v1 : Int32) (s0 : Int32) (m : Mem) (h : B_X10_leniency_26 N v1 s0 m = some b) : G Γ 8 0 m 26 [(0, .ref (oa (gw Γ) 95)), (1, .int v1)] [.int s0, .ref (oa (gw Γ) 95)] := by
  unfold B_X10_leniency_26 at h
  obtain ⟨m_3, e_3, h⟩ := wr_some h
  refine g_putI (ci := 10) (j := 0) C dX10_leniency_26 rfl (by decide) rfl inT_X10 (by decide) k_505 tyX10 tyX10_ok nmX10 rfl rfl rfl rfl rfl (G_m e_3 ?_)
  refine g_aload_n C dX10_leniency_29 0 rfl rfl ?_
  refine g_getI (ci := 10) (j := 0) C dX10_leniency_30 rfl (by decide) rfl inT_X10 (by decide) k_505 rfl rfl ?_
  refine g_if_le (tgt := 38) C dX10_leniency_33 (by decide) (fun c_21 => ?_) (fun c_21 => ?_)
  · replace h := it_t c_21 h
    refine g_iconst (v := (0 : Int32)) C dX10_leniency_38 (by decide) ?_
    refine g_istore_n (lv' := [(2, .int (0 : Int32)), (0, .ref (oa (gw Γ) 95)), (1, .int v1)]) C dX10_leniency_39 rfl (by decide) rfl ?_
    refine g_iconst (v := (0 : Int32)) C dX10_leniency_40 (by decide) ?_
    refine g_istore_n (lv' := [(3, .int (0 : Int32)), (2, .int (0 : Int32)), (0, .ref (oa (gw Γ) 95)), (1, .int v1)]) C dX10_leniency_41 rfl (by decide) rfl ?_
    refine g_iconst (v := (0 : Int32)) C dX10_leniency_42 (by decide) ?_
    refine g_istore (lv' := [(4, .int (0 : Int32)), (3, .int (0 : Int32)), (2, .int (0 : Int32)), (0, .ref (oa (gw Γ) 95)), (1, .int v1)]) C dX10_leniency_43 (by decide) rfl ?_
    refine g_iconst (v := (0 : Int32)) C dX10_leniency_45 (by decide) ?_
    refine g_istore (lv' := [(5, .int (0 : Int32)), (4, .int (0 : Int32)), (3, .int (0 : Int32)), (2, .int (0 : Int32)), (0, .ref (oa (gw Γ) 95)), (1, .int v1)]) C dX10_leniency_46 (by decide) rfl ?_
    obtain ⟨v1_16, v2_16, v3_16, v4_16, m_16, hx, h⟩ := l5_some h
    refine g_sub [4, 5, 3, 2, 1, 0] rfl ?_
    refine lt_X10_leniency_48 N Γ C N v1 (0 : Int32) (0 : Int32) (0 : Int32) (0 : Int32) m_3 _ hx ?_
    intro z1 z2 z3 z4 m9 e9
    cases e9
    refine g_iload_n C dX10_leniency_162 2 rfl rfl ?_
    refine g_i2d C dX10_leniency_163 ?_
    refine g_aload_n C dX10_leniency_164 0 rfl rfl ?_
    refine g_iload_n C dX10_leniency_165 1 rfl rfl ?_
    obtain ⟨r_17, m_17, hk_17, h⟩ := b2_some h
    refine g_vI (As := [.int v1_16]) (a := 95) (ci := 10) C dX10_leniency_166 mf_X10_scoredOf k_617 rfl (by decide) ⟨by decide, by decide⟩ rfl rfl (Nat.le_of_ble_eq_true rfl) (by decide) rfl (c_X10_scoredOf N (gl Γ) C.2.2.2.2 (gw Γ) v1_16 m_16 _ hk_17) ?_
    refine g_i2d C dX10_leniency_169 ?_
    obtain ⟨g_18, h⟩ := gd_some h
    refine g_ddiv C dX10_leniency_170 g_18 ?_
    refine g_iload_n C dX10_leniency_171 3 rfl rfl ?_
    refine g_i2d C dX10_leniency_172 ?_
    refine g_iload C dX10_leniency_173 4 rfl ?_
    refine g_i2d C dX10_leniency_175 ?_
    obtain ⟨g_19, h⟩ := gd_some h
    refine g_ddiv C dX10_leniency_176 g_19 ?_
    obtain ⟨g_20, h⟩ := gd_some h
    refine g_dsub C dX10_leniency_177 g_20 ?_
    obtain rfl := Option.some.inj h
    exact hE 178 _ dX10_leniency_178
  · replace h := it_f c_21 h
    refine g_dconst0 C dX10_leniency_36 ?_
    obtain rfl := Option.some.inj h
    exact hE 37 _ dX10_leniency_37
set_option maxRecDepth 100000 in
set_option maxHeartbeats 4000000 in
theorem t_X10_leniency (N : Nat) (Γ : Gc) (C : Cx Γ cX10_leniency 8 RX10 (rmK 2 45 0)) (v1 : Int32) (m : Mem) (b : UInt64 × Mem) (h : f_X10_leniency N v1 m = some b) (hE : EDn Γ 8 cX10_leniency b) : G Γ 8 0 m 0 [(0, .ref (oa (gw Γ) 95)), (1, .int v1)] [] := by
  unfold f_X10_leniency at h
  refine g_aload_n C dX10_leniency_0 0 rfl rfl ?_
  refine g_aload_n C dX10_leniency_1 0 rfl rfl ?_
  refine g_iload_n C dX10_leniency_2 1 rfl rfl ?_
  obtain ⟨r_1, m_1, hk_1, h⟩ := b2_some h
  refine g_vI (As := [.int v1]) (a := 95) (ci := 10) C dX10_leniency_3 mf_X10_isReviewer k_625 rfl (by decide) ⟨by decide, by decide⟩ rfl rfl (Nat.le_of_ble_eq_true rfl) (by decide) rfl (c_X10_isReviewer N (gl Γ) C.2.2.2.2 (gw Γ) v1 m _ hk_1) ?_
  refine g_if_ne (tgt := 13) C dX10_leniency_6 (by decide) (fun c_23 => ?_) (fun c_23 => ?_)
  · replace h := it_f c_23 h
    refine g_aload_n C dX10_leniency_13 0 rfl rfl ?_
    refine g_iload_n C dX10_leniency_14 1 rfl rfl ?_
    obtain ⟨r_2, m_2, hk_2, h⟩ := b2_some h
    refine g_vI (As := [.int v1]) (a := 95) (ci := 10) C dX10_leniency_15 mf_X10_scoredOf k_617 rfl (by decide) ⟨by decide, by decide⟩ rfl rfl (Nat.le_of_ble_eq_true rfl) (by decide) rfl (c_X10_scoredOf N (gl Γ) C.2.2.2.2 (gw Γ) v1 m_1 _ hk_2) ?_
    refine g_if_le (tgt := 25) C dX10_leniency_18 (by decide) (fun c_22 => ?_) (fun c_22 => ?_)
    · replace h := it_t c_22 h
      refine g_iconst (v := (2 : Int32)) C dX10_leniency_25 (by decide) ?_
      refine g_sub [0, 1] rfl ?_
      exact t_X10_leniency_26 N Γ C b hE v1 (2 : Int32) m_2 h
    · replace h := it_f c_22 h
      refine g_iconst (v := (0 : Int32)) C dX10_leniency_21 (by decide) ?_
      refine g_goto (tgt := 26) C dX10_leniency_22 (by decide) ?_
      refine g_sub [0, 1] rfl ?_
      exact t_X10_leniency_26 N Γ C b hE v1 (0 : Int32) m_2 h
  · replace h := it_t c_23 h
    refine g_iconst (v := (1 : Int32)) C dX10_leniency_9 (by decide) ?_
    refine g_goto (tgt := 26) C dX10_leniency_10 (by decide) ?_
    refine g_sub [0, 1] rfl ?_
    exact t_X10_leniency_26 N Γ C b hE v1 (1 : Int32) m_1 h
theorem c_X10_leniency (N : Nat) (l : Launch) (hst : l.stackTraces = false) (w : Om) (v1 : Int32) (m : Mem) (o : UInt64 × Mem) (h : f_X10_leniency N v1 m = some o) : KD l yX10_leniency cX10_leniency 8 (some .double) 2 45 w [.ref (oa w 95), .int v1] m o.1 o.2 := KD_of hst (by decide +kernel) RX10 rfl (Nat.le_of_ble_eq_true rfl) (fun Γ hw hl C hE => by
  subst hw; subst hl
  exact t_X10_leniency N Γ C v1 m o h hE)
def Ex_X10_disagreement_60 (Γ : Gc) (cs : Nat) (b : Int32 × Int32 × Int32 × Int32 × Mem) : Prop := (∀ (y1 : Int32) (y2 : Int32) (y3 : Int32) (y4 : Int32) (m' : Mem), b = (y1, y2, y3, y4, m') → G Γ 7 cs m' 129 [(0, .ref (oa (gw Γ) 95)), (1, .int y1), (2, .int y2), (3, .int y3), (4, .int y4)] [])
set_option maxRecDepth 100000 in
set_option maxHeartbeats 4000000 in
theorem t_X10_disagreement_118 (N : Nat) (Γ : Gc) (C : Cx Γ cX10_disagreement 7 RX10 (rmK 3 67 0)) (rc : Int32 → Int32 → Int32 → Int32 → Int32 → Mem → Option (Int32 × Int32 × Int32 × Int32 × Mem)) (b : Int32 × Int32 × Int32 × Int32 × Mem) (hE : Ex_X10_disagreement_60 Γ 0 b) (hrec : ∀ (v1 : Int32) (v2 : Int32) (v3 : Int32) (v4 : Int32) (v5 : Int32) (m : Mem) (b : Int32 × Int32 × Int32 × Int32 × Mem), rc v1 v2 v3 v4 v5 m = some b → Ex_X10_disagreement_60 Γ 0 b → G Γ 7 0 m 60 [(0, .ref (oa (gw Γ) 95)), (1, .int v1), (2, .int v2), (3, .int v3), (4, .int v4), (5, .int v5)] []) (v1 : Int32) (v3 : Int32) (v4 : Int32) (v5 : Int32) (s0 : Int32) (s1 : Int32) (m : Mem) (h : B_X10_disagreement_118 N rc v1 v3 v4 v5 s0 s1 m = some b) : G Γ 7 0 m 118 [(0, .ref (oa (gw Γ) 95)), (1, .int v1), (3, .int v3), (4, .int v4), (5, .int v5)] [.int s0, .int s1] := by
  unfold B_X10_disagreement_118 at h
  refine g_iadd C dX10_disagreement_118 ?_
  refine g_istore_n (lv' := [(2, .int (s1 + s0)), (0, .ref (oa (gw Γ) 95)), (1, .int v1), (3, .int v3), (4, .int v4), (5, .int v5)]) C dX10_disagreement_119 rfl (by decide) rfl ?_
  refine g_iinc (q := 3) (v := v3 + (1 : Int32)) (lv' := [(3, .int (v3 + (1 : Int32))), (2, .int (s1 + s0)), (0, .ref (oa (gw Γ) 95)), (1, .int v1), (4, .int v4), (5, .int v5)]) C dX10_disagreement_120 rfl rfl (by decide) rfl ?_
  refine g_iinc (q := 5) (v := v5 + (1 : Int32)) (lv' := [(5, .int (v5 + (1 : Int32))), (3, .int (v3 + (1 : Int32))), (2, .int (s1 + s0)), (0, .ref (oa (gw Γ) 95)), (1, .int v1), (4, .int v4)]) C dX10_disagreement_123 rfl rfl (by decide) rfl ?_
  refine g_goto (tgt := 60) C dX10_disagreement_126 (by decide) ?_
  refine g_sub [3, 4, 2, 1, 5, 0] rfl ?_
  exact hrec v1 (s1 + s0) (v3 + (1 : Int32)) v4 (v5 + (1 : Int32)) m b h hE
set_option maxRecDepth 100000 in
set_option maxHeartbeats 4000000 in
theorem t_X10_disagreement_60 (N : Nat) (Γ : Gc) (C : Cx Γ cX10_disagreement 7 RX10 (rmK 3 67 0)) (rc : Int32 → Int32 → Int32 → Int32 → Int32 → Mem → Option (Int32 × Int32 × Int32 × Int32 × Mem)) (b : Int32 × Int32 × Int32 × Int32 × Mem) (hE : Ex_X10_disagreement_60 Γ 0 b) (hrec : ∀ (v1 : Int32) (v2 : Int32) (v3 : Int32) (v4 : Int32) (v5 : Int32) (m : Mem) (b : Int32 × Int32 × Int32 × Int32 × Mem), rc v1 v2 v3 v4 v5 m = some b → Ex_X10_disagreement_60 Γ 0 b → G Γ 7 0 m 60 [(0, .ref (oa (gw Γ) 95)), (1, .int v1), (2, .int v2), (3, .int v3), (4, .int v4), (5, .int v5)] []) (v1 : Int32) (v2 : Int32) (v3 : Int32) (v4 : Int32) (v5 : Int32) (m : Mem) (h : T_X10_disagreement_60 N rc v1 v2 v3 v4 v5 m = some b) : G Γ 7 0 m 60 [(0, .ref (oa (gw Γ) 95)), (1, .int v1), (2, .int v2), (3, .int v3), (4, .int v4), (5, .int v5)] [] := by
  unfold T_X10_disagreement_60 at h
  refine g_iload C dX10_disagreement_60 5 rfl ?_
  refine g_iload C dX10_disagreement_62 4 rfl ?_
  refine g_icmp_ge (tgt := 129) C dX10_disagreement_64 (by decide) (fun c_11 => ?_) (fun c_11 => ?_)
  · replace h := it_t c_11 h
    obtain rfl := Option.some.inj h
    refine g_sub [0, 1, 2, 3, 4] rfl ?_
    exact hE _ _ _ _ _ rfl
  · replace h := it_f c_11 h
    refine g_aload_n C dX10_disagreement_67 0 rfl rfl ?_
    refine g_iload C dX10_disagreement_68 4 rfl ?_
    refine g_iload_n C dX10_disagreement_70 1 rfl rfl ?_
    obtain ⟨r_4, m_4, hk_4, h⟩ := b2_some h
    refine g_vI (As := [.int v4, .int v1]) (a := 95) (ci := 10) C dX10_disagreement_71 mf_X10_isScored k_699 rfl (by decide) ⟨by decide, by decide⟩ rfl rfl (Nat.le_of_ble_eq_true rfl) (by decide) rfl (c_X10_isScored N (gl Γ) C.2.2.2.2 (gw Γ) v4 v1 m _ hk_4) ?_
    refine g_if_eq (tgt := 123) C dX10_disagreement_74 (by decide) (fun c_10 => ?_) (fun c_10 => ?_)
    · replace h := it_t c_10 h
      refine g_iinc (q := 5) (v := v5 + (1 : Int32)) (lv' := [(5, .int (v5 + (1 : Int32))), (0, .ref (oa (gw Γ) 95)), (1, .int v1), (2, .int v2), (3, .int v3), (4, .int v4)]) C dX10_disagreement_123 rfl rfl (by decide) rfl ?_
      refine g_goto (tgt := 60) C dX10_disagreement_126 (by decide) ?_
      refine g_sub [1, 2, 3, 4, 5, 0] rfl ?_
      exact hrec v1 v2 v3 v4 (v5 + (1 : Int32)) m_4 b h hE
    · replace h := it_f c_10 h
      refine g_aload_n C dX10_disagreement_77 0 rfl rfl ?_
      refine g_iload C dX10_disagreement_78 5 rfl ?_
      refine g_iload_n C dX10_disagreement_80 1 rfl rfl ?_
      obtain ⟨r_5, m_5, hk_5, h⟩ := b2_some h
      refine g_vI (As := [.int v5, .int v1]) (a := 95) (ci := 10) C dX10_disagreement_81 mf_X10_isScored k_699 rfl (by decide) ⟨by decide, by decide⟩ rfl rfl (Nat.le_of_ble_eq_true rfl) (by decide) rfl (c_X10_isScored N (gl Γ) C.2.2.2.2 (gw Γ) v5 v1 m_4 _ hk_5) ?_
      refine g_if_eq (tgt := 123) C dX10_disagreement_84 (by decide) (fun c_9 => ?_) (fun c_9 => ?_)
      · replace h := it_t c_9 h
        refine g_iinc (q := 5) (v := v5 + (1 : Int32)) (lv' := [(5, .int (v5 + (1 : Int32))), (0, .ref (oa (gw Γ) 95)), (1, .int v1), (2, .int v2), (3, .int v3), (4, .int v4)]) C dX10_disagreement_123 rfl rfl (by decide) rfl ?_
        refine g_goto (tgt := 60) C dX10_disagreement_126 (by decide) ?_
        refine g_sub [1, 2, 3, 4, 5, 0] rfl ?_
        exact hrec v1 v2 v3 v4 (v5 + (1 : Int32)) m_5 b h hE
      · replace h := it_f c_9 h
        refine g_aload_n C dX10_disagreement_87 0 rfl rfl ?_
        refine g_iload C dX10_disagreement_88 4 rfl ?_
        refine g_iload_n C dX10_disagreement_90 1 rfl rfl ?_
        obtain ⟨r_6, m_6, hk_6, h⟩ := b2_some h
        refine g_vI (As := [.int v4, .int v1]) (a := 95) (ci := 10) C dX10_disagreement_91 mf_X10_score k_601 rfl (by decide) ⟨by decide, by decide⟩ rfl rfl (Nat.le_of_ble_eq_true rfl) (by decide) rfl (c_X10_score N (gl Γ) C.2.2.2.2 (gw Γ) v4 v1 m_5 _ hk_6) ?_
        refine g_aload_n C dX10_disagreement_94 0 rfl rfl ?_
        refine g_iload C dX10_disagreement_95 5 rfl ?_
        refine g_iload_n C dX10_disagreement_97 1 rfl rfl ?_
        obtain ⟨r_7, m_7, hk_7, h⟩ := b2_some h
        refine g_vI (As := [.int v5, .int v1]) (a := 95) (ci := 10) C dX10_disagreement_98 mf_X10_score k_601 rfl (by decide) ⟨by decide, by decide⟩ rfl rfl (Nat.le_of_ble_eq_true rfl) (by decide) rfl (c_X10_score N (gl Γ) C.2.2.2.2 (gw Γ) v5 v1 m_6 _ hk_7) ?_
        refine g_isub C dX10_disagreement_101 ?_
        refine g_istore (lv' := [(6, .int (r_6 - r_7)), (0, .ref (oa (gw Γ) 95)), (1, .int v1), (2, .int v2), (3, .int v3), (4, .int v4), (5, .int v5)]) C dX10_disagreement_102 (by decide) rfl ?_
        refine g_iload_n C dX10_disagreement_104 3 rfl rfl ?_
        refine g_iload C dX10_disagreement_105 0 rfl ?_
        refine g_if_ge (tgt := 116) C dX10_disagreement_107 (by decide) (fun c_8 => ?_) (fun c_8 => ?_)
        · replace h := it_t c_8 h
          refine g_iload C dX10_disagreement_116 0 rfl ?_
          refine g_sub [1, 2, 4, 5, 6] rfl ?_
          exact t_X10_disagreement_118 N Γ C rc b hE hrec v1 v3 v4 v5 (r_6 - r_7) v2 m_7 h
        · replace h := it_f c_8 h
          refine g_iload C dX10_disagreement_110 0 rfl ?_
          refine g_ineg C dX10_disagreement_112 ?_
          refine g_goto (tgt := 118) C dX10_disagreement_113 (by decide) ?_
          refine g_sub [1, 2, 4, 5, 6] rfl ?_
          exact t_X10_disagreement_118 N Γ C rc b hE hrec v1 v3 v4 v5 (-(r_6 - r_7)) v2 m_7 h
theorem lt_X10_disagreement_60 (N : Nat) (Γ : Gc) (C : Cx Γ cX10_disagreement 7 RX10 (rmK 3 67 0)) : ∀ (n : Nat) (v1 : Int32) (v2 : Int32) (v3 : Int32) (v4 : Int32) (v5 : Int32) (m : Mem) (b : Int32 × Int32 × Int32 × Int32 × Mem), L_X10_disagreement_60 N n v1 v2 v3 v4 v5 m = some b → Ex_X10_disagreement_60 Γ 0 b → G Γ 7 0 m 60 [(0, .ref (oa (gw Γ) 95)), (1, .int v1), (2, .int v2), (3, .int v3), (4, .int v4), (5, .int v5)] [] := by
  intro n
  induction n with
  | zero =>
    intro v1 v2 v3 v4 v5 m b h
    have h9 : (none : Option (Int32 × Int32 × Int32 × Int32 × Mem)) = some b := h
    cases h9
  | succ n ih => intro v1 v2 v3 v4 v5 m b h hE; exact t_X10_disagreement_60 N Γ C (L_X10_disagreement_60 N n) b hE ih v1 v2 v3 v4 v5 m h
def Ex_X10_disagreement_46 (Γ : Gc) (cs : Nat) (b : Int32 × Int32 × Mem) : Prop := (∀ (y2 : Int32) (y3 : Int32) (m' : Mem), b = (y2, y3, m') → G Γ 7 cs m' 135 [(2, .int y2), (3, .int y3)] [])
set_option maxRecDepth 100000 in
set_option maxHeartbeats 4000000 in
theorem t_X10_disagreement_46 (N : Nat) (Γ : Gc) (C : Cx Γ cX10_disagreement 7 RX10 (rmK 3 67 0)) (rc : Int32 → Int32 → Int32 → Int32 → Mem → Option (Int32 × Int32 × Mem)) (b : Int32 × Int32 × Mem) (hE : Ex_X10_disagreement_46 Γ 0 b) (hrec : ∀ (v1 : Int32) (v2 : Int32) (v3 : Int32) (v4 : Int32) (m : Mem) (b : Int32 × Int32 × Mem), rc v1 v2 v3 v4 m = some b → Ex_X10_disagreement_46 Γ 0 b → G Γ 7 0 m 46 [(0, .ref (oa (gw Γ) 95)), (1, .int v1), (2, .int v2), (3, .int v3), (4, .int v4)] []) (v1 : Int32) (v2 : Int32) (v3 : Int32) (v4 : Int32) (m : Mem) (h : T_X10_disagreement_46 N rc v1 v2 v3 v4 m = some b) : G Γ 7 0 m 46 [(0, .ref (oa (gw Γ) 95)), (1, .int v1), (2, .int v2), (3, .int v3), (4, .int v4)] [] := by
  unfold T_X10_disagreement_46 at h
  refine g_iload C dX10_disagreement_46 4 rfl ?_
  refine g_aload_n C dX10_disagreement_48 0 rfl rfl ?_
  refine g_getT (b := 96) (ci := 10) (j := 1) C dX10_disagreement_49 rfl (by decide) rfl inT_X10 (by decide) k_506 rfl rfl rfl rfl ?_
  refine g_iconst (v := (1 : Int32)) C dX10_disagreement_52 (by decide) ?_
  refine g_iald' (j := 1) C dX10_disagreement_53 (okA_of rfl rfl (by decide)) (by decide) ?_
  refine g_icmp_ge (tgt := 135) C dX10_disagreement_54 (by decide) (fun c_13 => ?_) (fun c_13 => ?_)
  · replace h := it_t c_13 h
    obtain rfl := Option.some.inj h
    refine g_sub [2, 3] rfl ?_
    exact hE _ _ _ rfl
  · replace h := it_f c_13 h
    refine g_iconst (v := (0 : Int32)) C dX10_disagreement_57 (by decide) ?_
    refine g_istore (lv' := [(5, .int (0 : Int32)), (0, .ref (oa (gw Γ) 95)), (1, .int v1), (2, .int v2), (3, .int v3), (4, .int v4)]) C dX10_disagreement_58 (by decide) rfl ?_
    obtain ⟨v1_12, v2_12, v3_12, v4_12, m_12, hx, h⟩ := l5_some h
    refine g_sub [1, 2, 3, 4, 5, 0] rfl ?_
    refine lt_X10_disagreement_60 N Γ C N v1 v2 v3 v4 (0 : Int32) m _ hx ?_
    intro z1 z2 z3 z4 m9 e9
    cases e9
    refine g_iinc (q := 4) (v := v4_12 + (1 : Int32)) (lv' := [(4, .int (v4_12 + (1 : Int32))), (0, .ref (oa (gw Γ) 95)), (1, .int v1_12), (2, .int v2_12), (3, .int v3_12)]) C dX10_disagreement_129 rfl rfl (by decide) rfl ?_
    refine g_goto (tgt := 46) C dX10_disagreement_132 (by decide) ?_
    refine g_sub [1, 2, 3, 4, 0] rfl ?_
    exact hrec v1_12 v2_12 v3_12 (v4_12 + (1 : Int32)) m_12 b h hE
theorem lt_X10_disagreement_46 (N : Nat) (Γ : Gc) (C : Cx Γ cX10_disagreement 7 RX10 (rmK 3 67 0)) : ∀ (n : Nat) (v1 : Int32) (v2 : Int32) (v3 : Int32) (v4 : Int32) (m : Mem) (b : Int32 × Int32 × Mem), L_X10_disagreement_46 N n v1 v2 v3 v4 m = some b → Ex_X10_disagreement_46 Γ 0 b → G Γ 7 0 m 46 [(0, .ref (oa (gw Γ) 95)), (1, .int v1), (2, .int v2), (3, .int v3), (4, .int v4)] [] := by
  intro n
  induction n with
  | zero =>
    intro v1 v2 v3 v4 m b h
    have h9 : (none : Option (Int32 × Int32 × Mem)) = some b := h
    cases h9
  | succ n ih => intro v1 v2 v3 v4 m b h hE; exact t_X10_disagreement_46 N Γ C (L_X10_disagreement_46 N n) b hE ih v1 v2 v3 v4 m h
set_option maxRecDepth 100000 in
set_option maxHeartbeats 4000000 in
theorem t_X10_disagreement_27 (N : Nat) (Γ : Gc) (C : Cx Γ cX10_disagreement 7 RX10 (rmK 3 67 0)) (b : UInt64 × Mem) (hE : EDn Γ 7 cX10_disagreement b) (v1 : Int32) (s0 : Int32) (m : Mem) (h : B_X10_disagreement_27 N v1 s0 m = some b) : G Γ 7 0 m 27 [(0, .ref (oa (gw Γ) 95)), (1, .int v1)] [.int s0, .ref (oa (gw Γ) 95)] := by
  unfold B_X10_disagreement_27 at h
  obtain ⟨m_3, e_3, h⟩ := wr_some h
  refine g_putI (ci := 10) (j := 0) C dX10_disagreement_27 rfl (by decide) rfl inT_X10 (by decide) k_505 tyX10 tyX10_ok nmX10 rfl rfl rfl rfl rfl (G_m e_3 ?_)
  refine g_aload_n C dX10_disagreement_30 0 rfl rfl ?_
  refine g_getI (ci := 10) (j := 0) C dX10_disagreement_31 rfl (by decide) rfl inT_X10 (by decide) k_505 rfl rfl ?_
  refine g_if_le (tgt := 39) C dX10_disagreement_34 (by decide) (fun c_16 => ?_) (fun c_16 => ?_)
  · replace h := it_t c_16 h
    refine g_iconst (v := (0 : Int32)) C dX10_disagreement_39 (by decide) ?_
    refine g_istore_n (lv' := [(2, .int (0 : Int32)), (0, .ref (oa (gw Γ) 95)), (1, .int v1)]) C dX10_disagreement_40 rfl (by decide) rfl ?_
    refine g_iconst (v := (0 : Int32)) C dX10_disagreement_41 (by decide) ?_
    refine g_istore_n (lv' := [(3, .int (0 : Int32)), (2, .int (0 : Int32)), (0, .ref (oa (gw Γ) 95)), (1, .int v1)]) C dX10_disagreement_42 rfl (by decide) rfl ?_
    refine g_iconst (v := (0 : Int32)) C dX10_disagreement_43 (by decide) ?_
    refine g_istore (lv' := [(4, .int (0 : Int32)), (3, .int (0 : Int32)), (2, .int (0 : Int32)), (0, .ref (oa (gw Γ) 95)), (1, .int v1)]) C dX10_disagreement_44 (by decide) rfl ?_
    obtain ⟨v2_14, v3_14, m_14, hx, h⟩ := l3_some h
    refine g_sub [3, 4, 2, 1, 0] rfl ?_
    refine lt_X10_disagreement_46 N Γ C N v1 (0 : Int32) (0 : Int32) (0 : Int32) m_3 _ hx ?_
    intro z2 z3 m9 e9
    cases e9
    refine g_iload_n C dX10_disagreement_135 0 rfl rfl ?_
    refine g_i2d C dX10_disagreement_136 ?_
    refine g_iload_n C dX10_disagreement_137 1 rfl rfl ?_
    refine g_i2d C dX10_disagreement_138 ?_
    obtain ⟨g_15, h⟩ := gd_some h
    refine g_ddiv C dX10_disagreement_139 g_15 ?_
    obtain rfl := Option.some.inj h
    exact hE 140 _ dX10_disagreement_140
  · replace h := it_f c_16 h
    refine g_dconst0 C dX10_disagreement_37 ?_
    obtain rfl := Option.some.inj h
    exact hE 38 _ dX10_disagreement_38
set_option maxRecDepth 100000 in
set_option maxHeartbeats 4000000 in
theorem t_X10_disagreement (N : Nat) (Γ : Gc) (C : Cx Γ cX10_disagreement 7 RX10 (rmK 3 67 0)) (v1 : Int32) (m : Mem) (b : UInt64 × Mem) (h : f_X10_disagreement N v1 m = some b) (hE : EDn Γ 7 cX10_disagreement b) : G Γ 7 0 m 0 [(0, .ref (oa (gw Γ) 95)), (1, .int v1)] [] := by
  unfold f_X10_disagreement at h
  refine g_aload_n C dX10_disagreement_0 0 rfl rfl ?_
  refine g_aload_n C dX10_disagreement_1 0 rfl rfl ?_
  refine g_iload_n C dX10_disagreement_2 1 rfl rfl ?_
  obtain ⟨r_1, m_1, hk_1, h⟩ := b2_some h
  refine g_vI (As := [.int v1]) (a := 95) (ci := 10) C dX10_disagreement_3 mf_X10_isProposal k_629 rfl (by decide) ⟨by decide, by decide⟩ rfl rfl (Nat.le_of_ble_eq_true rfl) (by decide) rfl (c_X10_isProposal N (gl Γ) C.2.2.2.2 (gw Γ) v1 m _ hk_1) ?_
  refine g_if_ne (tgt := 13) C dX10_disagreement_6 (by decide) (fun c_18 => ?_) (fun c_18 => ?_)
  · replace h := it_f c_18 h
    refine g_aload_n C dX10_disagreement_13 0 rfl rfl ?_
    refine g_iload_n C dX10_disagreement_14 1 rfl rfl ?_
    obtain ⟨r_2, m_2, hk_2, h⟩ := b2_some h
    refine g_vI (As := [.int v1]) (a := 95) (ci := 10) C dX10_disagreement_15 mf_X10_scoresOf k_707 rfl (by decide) ⟨by decide, by decide⟩ rfl rfl (Nat.le_of_ble_eq_true rfl) (by decide) rfl (c_X10_scoresOf N (gl Γ) C.2.2.2.2 (gw Γ) v1 m_1 _ hk_2) ?_
    refine g_iconst (v := (1 : Int32)) C dX10_disagreement_18 (by decide) ?_
    refine g_icmp_le (tgt := 26) C dX10_disagreement_19 (by decide) (fun c_17 => ?_) (fun c_17 => ?_)
    · replace h := it_t c_17 h
      refine g_iconst (v := (2 : Int32)) C dX10_disagreement_26 (by decide) ?_
      refine g_sub [0, 1] rfl ?_
      exact t_X10_disagreement_27 N Γ C b hE v1 (2 : Int32) m_2 h
    · replace h := it_f c_17 h
      refine g_iconst (v := (0 : Int32)) C dX10_disagreement_22 (by decide) ?_
      refine g_goto (tgt := 27) C dX10_disagreement_23 (by decide) ?_
      refine g_sub [0, 1] rfl ?_
      exact t_X10_disagreement_27 N Γ C b hE v1 (0 : Int32) m_2 h
  · replace h := it_t c_18 h
    refine g_iconst (v := (1 : Int32)) C dX10_disagreement_9 (by decide) ?_
    refine g_goto (tgt := 27) C dX10_disagreement_10 (by decide) ?_
    refine g_sub [0, 1] rfl ?_
    exact t_X10_disagreement_27 N Γ C b hE v1 (1 : Int32) m_1 h
theorem c_X10_disagreement (N : Nat) (l : Launch) (hst : l.stackTraces = false) (w : Om) (v1 : Int32) (m : Mem) (o : UInt64 × Mem) (h : f_X10_disagreement N v1 m = some o) : KD l yX10_disagreement cX10_disagreement 7 (some .double) 3 67 w [.ref (oa w 95), .int v1] m o.1 o.2 := KD_of hst (by decide +kernel) RX10 rfl (Nat.le_of_ble_eq_true rfl) (fun Γ hw hl C hE => by
  subst hw; subst hl
  exact t_X10_disagreement N Γ C v1 m o h hE)
def Ex_X10_leastOf_5 (Γ : Gc) (cs : Nat) (b : Int32 × Mem) : Prop := (∀ (y2 : Int32) (m' : Mem), b = (y2, m') → G Γ 4 cs m' 51 [(2, .int y2)] [])
set_option maxRecDepth 100000 in
set_option maxHeartbeats 4000000 in
theorem t_X10_leastOf_43 (N : Nat) (Γ : Gc) (C : Cx Γ cX10_leastOf 4 RX10 (rmK 2 44 0)) (rc : Int32 → Int32 → Int32 → Mem → Option (Int32 × Mem)) (b : Int32 × Mem) (hE : Ex_X10_leastOf_5 Γ 0 b) (hrec : ∀ (v1 : Int32) (v2 : Int32) (v3 : Int32) (m : Mem) (b : Int32 × Mem), rc v1 v2 v3 m = some b → Ex_X10_leastOf_5 Γ 0 b → G Γ 4 0 m 5 [(0, .ref (oa (gw Γ) 95)), (1, .int v1), (2, .int v2), (3, .int v3)] []) (v1 : Int32) (v2 : Int32) (v3 : Int32) (m : Mem) (h : B_X10_leastOf_43 N rc v1 v2 v3 m = some b) : G Γ 4 0 m 43 [(0, .ref (oa (gw Γ) 95)), (1, .int v1), (2, .int v2), (3, .int v3)] [] := by
  unfold B_X10_leastOf_43 at h
  refine g_iload_n C dX10_leastOf_43 2 rfl rfl ?_
  refine g_istore_n (lv' := [(2, .int v2), (0, .ref (oa (gw Γ) 95)), (1, .int v1), (3, .int v3)]) C dX10_leastOf_44 rfl (by decide) rfl ?_
  refine g_iinc (q := 3) (v := v3 + (1 : Int32)) (lv' := [(3, .int (v3 + (1 : Int32))), (2, .int v2), (0, .ref (oa (gw Γ) 95)), (1, .int v1)]) C dX10_leastOf_45 rfl rfl (by decide) rfl ?_
  refine g_goto (tgt := 5) C dX10_leastOf_48 (by decide) ?_
  refine g_sub [2, 3, 1, 0] rfl ?_
  exact hrec v1 v2 (v3 + (1 : Int32)) m b h hE
set_option maxRecDepth 100000 in
set_option maxHeartbeats 4000000 in
theorem t_X10_leastOf_5 (N : Nat) (Γ : Gc) (C : Cx Γ cX10_leastOf 4 RX10 (rmK 2 44 0)) (rc : Int32 → Int32 → Int32 → Mem → Option (Int32 × Mem)) (b : Int32 × Mem) (hE : Ex_X10_leastOf_5 Γ 0 b) (hrec : ∀ (v1 : Int32) (v2 : Int32) (v3 : Int32) (m : Mem) (b : Int32 × Mem), rc v1 v2 v3 m = some b → Ex_X10_leastOf_5 Γ 0 b → G Γ 4 0 m 5 [(0, .ref (oa (gw Γ) 95)), (1, .int v1), (2, .int v2), (3, .int v3)] []) (v1 : Int32) (v2 : Int32) (v3 : Int32) (m : Mem) (h : T_X10_leastOf_5 N rc v1 v2 v3 m = some b) : G Γ 4 0 m 5 [(0, .ref (oa (gw Γ) 95)), (1, .int v1), (2, .int v2), (3, .int v3)] [] := by
  unfold T_X10_leastOf_5 at h
  refine g_iload_n C dX10_leastOf_5 3 rfl rfl ?_
  refine g_aload_n C dX10_leastOf_6 0 rfl rfl ?_
  refine g_getT (b := 96) (ci := 10) (j := 1) C dX10_leastOf_7 rfl (by decide) rfl inT_X10 (by decide) k_506 rfl rfl rfl rfl ?_
  refine g_iconst (v := (1 : Int32)) C dX10_leastOf_10 (by decide) ?_
  refine g_iald' (j := 1) C dX10_leastOf_11 (okA_of rfl rfl (by decide)) (by decide) ?_
  refine g_icmp_ge (tgt := 51) C dX10_leastOf_12 (by decide) (fun c_6 => ?_) (fun c_6 => ?_)
  · replace h := it_t c_6 h
    obtain rfl := Option.some.inj h
    refine g_sub [2] rfl ?_
    exact hE _ _ rfl
  · replace h := it_f c_6 h
    refine g_aload_n C dX10_leastOf_15 0 rfl rfl ?_
    refine g_iload_n C dX10_leastOf_16 3 rfl rfl ?_
    refine g_iload_n C dX10_leastOf_17 1 rfl rfl ?_
    obtain ⟨r_1, m_1, hk_1, h⟩ := b2_some h
    refine g_vI (As := [.int v3, .int v1]) (a := 95) (ci := 10) C dX10_leastOf_18 mf_X10_isScored k_699 rfl (by decide) ⟨by decide, by decide⟩ rfl rfl (Nat.le_of_ble_eq_true rfl) (by decide) rfl (c_X10_isScored N (gl Γ) C.2.2.2.2 (gw Γ) v3 v1 m _ hk_1) ?_
    refine g_if_eq (tgt := 43) C dX10_leastOf_21 (by decide) (fun c_5 => ?_) (fun c_5 => ?_)
    · replace h := it_t c_5 h
      refine g_sub [0, 1, 2, 3] rfl ?_
      exact t_X10_leastOf_43 N Γ C rc b hE hrec v1 v2 v3 m_1 h
    · replace h := it_f c_5 h
      refine g_aload_n C dX10_leastOf_24 0 rfl rfl ?_
      refine g_iload_n C dX10_leastOf_25 3 rfl rfl ?_
      refine g_iload_n C dX10_leastOf_26 1 rfl rfl ?_
      obtain ⟨r_2, m_2, hk_2, h⟩ := b2_some h
      refine g_vI (As := [.int v3, .int v1]) (a := 95) (ci := 10) C dX10_leastOf_27 mf_X10_score k_601 rfl (by decide) ⟨by decide, by decide⟩ rfl rfl (Nat.le_of_ble_eq_true rfl) (by decide) rfl (c_X10_score N (gl Γ) C.2.2.2.2 (gw Γ) v3 v1 m_1 _ hk_2) ?_
      refine g_iload_n C dX10_leastOf_30 2 rfl rfl ?_
      refine g_icmp_ge (tgt := 43) C dX10_leastOf_31 (by decide) (fun c_4 => ?_) (fun c_4 => ?_)
      · replace h := it_t c_4 h
        refine g_sub [0, 1, 2, 3] rfl ?_
        exact t_X10_leastOf_43 N Γ C rc b hE hrec v1 v2 v3 m_2 h
      · replace h := it_f c_4 h
        refine g_aload_n C dX10_leastOf_34 0 rfl rfl ?_
        refine g_iload_n C dX10_leastOf_35 3 rfl rfl ?_
        refine g_iload_n C dX10_leastOf_36 1 rfl rfl ?_
        obtain ⟨r_3, m_3, hk_3, h⟩ := b2_some h
        refine g_vI (As := [.int v3, .int v1]) (a := 95) (ci := 10) C dX10_leastOf_37 mf_X10_score k_601 rfl (by decide) ⟨by decide, by decide⟩ rfl rfl (Nat.le_of_ble_eq_true rfl) (by decide) rfl (c_X10_score N (gl Γ) C.2.2.2.2 (gw Γ) v3 v1 m_2 _ hk_3) ?_
        refine g_goto (tgt := 44) C dX10_leastOf_40 (by decide) ?_
        refine g_istore_n (lv' := [(2, .int r_3), (0, .ref (oa (gw Γ) 95)), (1, .int v1), (3, .int v3)]) C dX10_leastOf_44 rfl (by decide) rfl ?_
        refine g_iinc (q := 3) (v := v3 + (1 : Int32)) (lv' := [(3, .int (v3 + (1 : Int32))), (2, .int r_3), (0, .ref (oa (gw Γ) 95)), (1, .int v1)]) C dX10_leastOf_45 rfl rfl (by decide) rfl ?_
        refine g_goto (tgt := 5) C dX10_leastOf_48 (by decide) ?_
        refine g_sub [2, 3, 1, 0] rfl ?_
        exact hrec v1 r_3 (v3 + (1 : Int32)) m_3 b h hE
theorem lt_X10_leastOf_5 (N : Nat) (Γ : Gc) (C : Cx Γ cX10_leastOf 4 RX10 (rmK 2 44 0)) : ∀ (n : Nat) (v1 : Int32) (v2 : Int32) (v3 : Int32) (m : Mem) (b : Int32 × Mem), L_X10_leastOf_5 N n v1 v2 v3 m = some b → Ex_X10_leastOf_5 Γ 0 b → G Γ 4 0 m 5 [(0, .ref (oa (gw Γ) 95)), (1, .int v1), (2, .int v2), (3, .int v3)] [] := by
  intro n
  induction n with
  | zero =>
    intro v1 v2 v3 m b h
    have h9 : (none : Option (Int32 × Mem)) = some b := h
    cases h9
  | succ n ih => intro v1 v2 v3 m b h hE; exact t_X10_leastOf_5 N Γ C (L_X10_leastOf_5 N n) b hE ih v1 v2 v3 m h
set_option maxRecDepth 100000 in
set_option maxHeartbeats 4000000 in
theorem t_X10_leastOf (N : Nat) (Γ : Gc) (C : Cx Γ cX10_leastOf 4 RX10 (rmK 2 44 0)) (v1 : Int32) (m : Mem) (b : Int32 × Mem) (h : f_X10_leastOf N v1 m = some b) (hE : EIn Γ 4 cX10_leastOf b) : G Γ 4 0 m 0 [(0, .ref (oa (gw Γ) 95)), (1, .int v1)] [] := by
  unfold f_X10_leastOf at h
  refine g_bipush (v := (101 : Int32)) C dX10_leastOf_0 (by decide) ?_
  refine g_istore_n (lv' := [(2, .int (101 : Int32)), (0, .ref (oa (gw Γ) 95)), (1, .int v1)]) C dX10_leastOf_2 rfl (by decide) rfl ?_
  refine g_iconst (v := (0 : Int32)) C dX10_leastOf_3 (by decide) ?_
  refine g_istore_n (lv' := [(3, .int (0 : Int32)), (2, .int (101 : Int32)), (0, .ref (oa (gw Γ) 95)), (1, .int v1)]) C dX10_leastOf_4 rfl (by decide) rfl ?_
  obtain ⟨v2_7, m_7, hx, h⟩ := l2_some h
  refine g_sub [2, 3, 1, 0] rfl ?_
  refine lt_X10_leastOf_5 N Γ C N v1 (101 : Int32) (0 : Int32) m _ hx ?_
  intro z2 m9 e9
  cases e9
  refine g_iload_n C dX10_leastOf_51 0 rfl rfl ?_
  obtain rfl := Option.some.inj h
  exact hE 52 _ dX10_leastOf_52
theorem c_X10_leastOf (N : Nat) (l : Launch) (hst : l.stackTraces = false) (w : Om) (v1 : Int32) (m : Mem) (o : Int32 × Mem) (h : f_X10_leastOf N v1 m = some o) : KI l yX10_leastOf cX10_leastOf 4 (some .int) 2 44 w [.ref (oa w 95), .int v1] m o.1 o.2 := KI_of hst (by decide +kernel) RX10 rfl (Nat.le_of_ble_eq_true rfl) (fun Γ hw hl C hE => by
  subst hw; subst hl
  exact t_X10_leastOf N Γ C v1 m o h hE)
def Ex_X10_highOf_4 (Γ : Gc) (cs : Nat) (b : Int32 × Mem) : Prop := (∀ (y2 : Int32) (m' : Mem), b = (y2, m') → G Γ 4 cs m' 39 [(2, .int y2)] [])
set_option maxRecDepth 100000 in
set_option maxHeartbeats 4000000 in
theorem t_X10_highOf_4 (N : Nat) (Γ : Gc) (C : Cx Γ cX10_highOf 4 RX10 (rmK 1 22 0)) (rc : Int32 → Int32 → Int32 → Mem → Option (Int32 × Mem)) (b : Int32 × Mem) (hE : Ex_X10_highOf_4 Γ 0 b) (hrec : ∀ (v1 : Int32) (v2 : Int32) (v3 : Int32) (m : Mem) (b : Int32 × Mem), rc v1 v2 v3 m = some b → Ex_X10_highOf_4 Γ 0 b → G Γ 4 0 m 4 [(0, .ref (oa (gw Γ) 95)), (1, .int v1), (2, .int v2), (3, .int v3)] []) (v1 : Int32) (v2 : Int32) (v3 : Int32) (m : Mem) (h : T_X10_highOf_4 N rc v1 v2 v3 m = some b) : G Γ 4 0 m 4 [(0, .ref (oa (gw Γ) 95)), (1, .int v1), (2, .int v2), (3, .int v3)] [] := by
  unfold T_X10_highOf_4 at h
  refine g_iload_n C dX10_highOf_4 3 rfl rfl ?_
  refine g_aload_n C dX10_highOf_5 0 rfl rfl ?_
  refine g_getT (b := 96) (ci := 10) (j := 1) C dX10_highOf_6 rfl (by decide) rfl inT_X10 (by decide) k_506 rfl rfl rfl rfl ?_
  refine g_iconst (v := (1 : Int32)) C dX10_highOf_9 (by decide) ?_
  refine g_iald' (j := 1) C dX10_highOf_10 (okA_of rfl rfl (by decide)) (by decide) ?_
  refine g_icmp_ge (tgt := 39) C dX10_highOf_11 (by decide) (fun c_3 => ?_) (fun c_3 => ?_)
  · replace h := it_t c_3 h
    obtain rfl := Option.some.inj h
    refine g_sub [2] rfl ?_
    exact hE _ _ rfl
  · replace h := it_f c_3 h
    refine g_iload_n C dX10_highOf_14 2 rfl rfl ?_
    refine g_aload_n C dX10_highOf_15 0 rfl rfl ?_
    refine g_iload_n C dX10_highOf_16 3 rfl rfl ?_
    refine g_iload_n C dX10_highOf_17 1 rfl rfl ?_
    obtain ⟨r_1, m_1, hk_1, h⟩ := b2_some h
    refine g_vI (As := [.int v3, .int v1]) (a := 95) (ci := 10) C dX10_highOf_18 mf_X10_score k_601 rfl (by decide) ⟨by decide, by decide⟩ rfl rfl (Nat.le_of_ble_eq_true rfl) (by decide) rfl (c_X10_score N (gl Γ) C.2.2.2.2 (gw Γ) v3 v1 m _ hk_1) ?_
    refine g_bipush (v := (80 : Int32)) C dX10_highOf_21 (by decide) ?_
    refine g_icmp_lt (tgt := 30) C dX10_highOf_23 (by decide) (fun c_2 => ?_) (fun c_2 => ?_)
    · replace h := it_t c_2 h
      refine g_iconst (v := (0 : Int32)) C dX10_highOf_30 (by decide) ?_
      refine g_iadd C dX10_highOf_31 ?_
      refine g_istore_n (lv' := [(2, .int (v2 + (0 : Int32))), (0, .ref (oa (gw Γ) 95)), (1, .int v1), (3, .int v3)]) C dX10_highOf_32 rfl (by decide) rfl ?_
      refine g_iinc (q := 3) (v := v3 + (1 : Int32)) (lv' := [(3, .int (v3 + (1 : Int32))), (2, .int (v2 + (0 : Int32))), (0, .ref (oa (gw Γ) 95)), (1, .int v1)]) C dX10_highOf_33 rfl rfl (by decide) rfl ?_
      refine g_goto (tgt := 4) C dX10_highOf_36 (by decide) ?_
      refine g_sub [2, 3, 1, 0] rfl ?_
      exact hrec v1 (v2 + (0 : Int32)) (v3 + (1 : Int32)) m_1 b h hE
    · replace h := it_f c_2 h
      refine g_iconst (v := (1 : Int32)) C dX10_highOf_26 (by decide) ?_
      refine g_goto (tgt := 31) C dX10_highOf_27 (by decide) ?_
      refine g_iadd C dX10_highOf_31 ?_
      refine g_istore_n (lv' := [(2, .int (v2 + (1 : Int32))), (0, .ref (oa (gw Γ) 95)), (1, .int v1), (3, .int v3)]) C dX10_highOf_32 rfl (by decide) rfl ?_
      refine g_iinc (q := 3) (v := v3 + (1 : Int32)) (lv' := [(3, .int (v3 + (1 : Int32))), (2, .int (v2 + (1 : Int32))), (0, .ref (oa (gw Γ) 95)), (1, .int v1)]) C dX10_highOf_33 rfl rfl (by decide) rfl ?_
      refine g_goto (tgt := 4) C dX10_highOf_36 (by decide) ?_
      refine g_sub [2, 3, 1, 0] rfl ?_
      exact hrec v1 (v2 + (1 : Int32)) (v3 + (1 : Int32)) m_1 b h hE
theorem lt_X10_highOf_4 (N : Nat) (Γ : Gc) (C : Cx Γ cX10_highOf 4 RX10 (rmK 1 22 0)) : ∀ (n : Nat) (v1 : Int32) (v2 : Int32) (v3 : Int32) (m : Mem) (b : Int32 × Mem), L_X10_highOf_4 N n v1 v2 v3 m = some b → Ex_X10_highOf_4 Γ 0 b → G Γ 4 0 m 4 [(0, .ref (oa (gw Γ) 95)), (1, .int v1), (2, .int v2), (3, .int v3)] [] := by
  intro n
  induction n with
  | zero =>
    intro v1 v2 v3 m b h
    have h9 : (none : Option (Int32 × Mem)) = some b := h
    cases h9
  | succ n ih => intro v1 v2 v3 m b h hE; exact t_X10_highOf_4 N Γ C (L_X10_highOf_4 N n) b hE ih v1 v2 v3 m h
set_option maxRecDepth 100000 in
set_option maxHeartbeats 4000000 in
theorem t_X10_highOf (N : Nat) (Γ : Gc) (C : Cx Γ cX10_highOf 4 RX10 (rmK 1 22 0)) (v1 : Int32) (m : Mem) (b : Int32 × Mem) (h : f_X10_highOf N v1 m = some b) (hE : EIn Γ 4 cX10_highOf b) : G Γ 4 0 m 0 [(0, .ref (oa (gw Γ) 95)), (1, .int v1)] [] := by
  unfold f_X10_highOf at h
  refine g_iconst (v := (0 : Int32)) C dX10_highOf_0 (by decide) ?_
  refine g_istore_n (lv' := [(2, .int (0 : Int32)), (0, .ref (oa (gw Γ) 95)), (1, .int v1)]) C dX10_highOf_1 rfl (by decide) rfl ?_
  refine g_iconst (v := (0 : Int32)) C dX10_highOf_2 (by decide) ?_
  refine g_istore_n (lv' := [(3, .int (0 : Int32)), (2, .int (0 : Int32)), (0, .ref (oa (gw Γ) 95)), (1, .int v1)]) C dX10_highOf_3 rfl (by decide) rfl ?_
  obtain ⟨v2_4, m_4, hx, h⟩ := l2_some h
  refine g_sub [2, 3, 1, 0] rfl ?_
  refine lt_X10_highOf_4 N Γ C N v1 (0 : Int32) (0 : Int32) m _ hx ?_
  intro z2 m9 e9
  cases e9
  refine g_iload_n C dX10_highOf_39 0 rfl rfl ?_
  obtain rfl := Option.some.inj h
  exact hE 40 _ dX10_highOf_40
theorem c_X10_highOf (N : Nat) (l : Launch) (hst : l.stackTraces = false) (w : Om) (v1 : Int32) (m : Mem) (o : Int32 × Mem) (h : f_X10_highOf N v1 m = some o) : KI l yX10_highOf cX10_highOf 4 (some .int) 1 22 w [.ref (oa w 95), .int v1] m o.1 o.2 := KI_of hst (by decide +kernel) RX10 rfl (Nat.le_of_ble_eq_true rfl) (fun Γ hw hl C hE => by
  subst hw; subst hl
  exact t_X10_highOf N Γ C v1 m o h hE)
set_option maxRecDepth 100000 in
set_option maxHeartbeats 4000000 in
theorem t_X10_ahead (N : Nat) (Γ : Gc) (C : Cx Γ cX10_ahead 4 RX10 (rmK 4 90 0)) (v1 : Int32) (v2 : Int32) (v3 : Int32) (m : Mem) (b : Int32 × Mem) (h : f_X10_ahead N v1 v2 v3 m = some b) (hE : EIn Γ 4 cX10_ahead b) : G Γ 4 0 m 0 [(0, .ref (oa (gw Γ) 95)), (1, .int v1), (2, .int v2), (3, .int v3)] [] := by
  unfold f_X10_ahead at h
  refine g_iload_n C dX10_ahead_0 3 rfl rfl ?_
  by_cases c_3 : v3 = (0 : Int32)
  · replace h := it_t c_3 h
    refine g_tin (tgt := 32) (off := 31) C dX10_ahead_1 (by rw [c_3]; decide) (by rw [c_3]; decide) (by rw [c_3]; rfl) (by decide) ?_
    refine g_aload_n C dX10_ahead_32 0 rfl rfl ?_
    refine g_iload_n C dX10_ahead_33 1 rfl rfl ?_
    obtain ⟨r_1, m_1, hk_1, h⟩ := b2_some h
    refine g_vI (As := [.int v1]) (a := 95) (ci := 10) C dX10_ahead_34 mf_X10_normal k_711 rfl (by decide) ⟨by decide, by decide⟩ rfl rfl (Nat.le_of_ble_eq_true rfl) (by decide) rfl (c_X10_normal N (gl Γ) C.2.2.2.2 (gw Γ) v1 m _ hk_1) ?_
    refine g_aload_n C dX10_ahead_37 0 rfl rfl ?_
    refine g_iload_n C dX10_ahead_38 2 rfl rfl ?_
    obtain ⟨r_2, m_2, hk_2, h⟩ := b2_some h
    refine g_vI (As := [.int v2]) (a := 95) (ci := 10) C dX10_ahead_39 mf_X10_normal k_711 rfl (by decide) ⟨by decide, by decide⟩ rfl rfl (Nat.le_of_ble_eq_true rfl) (by decide) rfl (c_X10_normal N (gl Γ) C.2.2.2.2 (gw Γ) v2 m_1 _ hk_2) ?_
    refine g_isub C dX10_ahead_42 ?_
    obtain rfl := Option.some.inj h
    exact hE 43 _ dX10_ahead_43
  · replace h := it_f c_3 h
    by_cases c_6 : v3 = (1 : Int32)
    · replace h := it_t c_6 h
      refine g_tin (tgt := 44) (off := 43) C dX10_ahead_1 (by rw [c_6]; decide) (by rw [c_6]; decide) (by rw [c_6]; rfl) (by decide) ?_
      refine g_aload_n C dX10_ahead_44 0 rfl rfl ?_
      refine g_iload_n C dX10_ahead_45 1 rfl rfl ?_
      obtain ⟨r_4, m_4, hk_4, h⟩ := b2_some h
      refine g_vI (As := [.int v1]) (a := 95) (ci := 10) C dX10_ahead_46 mf_X10_leastOf k_715 rfl (by decide) ⟨by decide, by decide⟩ rfl rfl (Nat.le_of_ble_eq_true rfl) (by decide) rfl (c_X10_leastOf N (gl Γ) C.2.2.2.2 (gw Γ) v1 m _ hk_4) ?_
      refine g_aload_n C dX10_ahead_49 0 rfl rfl ?_
      refine g_iload_n C dX10_ahead_50 2 rfl rfl ?_
      obtain ⟨r_5, m_5, hk_5, h⟩ := b2_some h
      refine g_vI (As := [.int v2]) (a := 95) (ci := 10) C dX10_ahead_51 mf_X10_leastOf k_715 rfl (by decide) ⟨by decide, by decide⟩ rfl rfl (Nat.le_of_ble_eq_true rfl) (by decide) rfl (c_X10_leastOf N (gl Γ) C.2.2.2.2 (gw Γ) v2 m_4 _ hk_5) ?_
      refine g_isub C dX10_ahead_54 ?_
      obtain rfl := Option.some.inj h
      exact hE 55 _ dX10_ahead_55
    · replace h := it_f c_6 h
      by_cases c_9 : v3 = (2 : Int32)
      · replace h := it_t c_9 h
        refine g_tin (tgt := 56) (off := 55) C dX10_ahead_1 (by rw [c_9]; decide) (by rw [c_9]; decide) (by rw [c_9]; rfl) (by decide) ?_
        refine g_aload_n C dX10_ahead_56 0 rfl rfl ?_
        refine g_iload_n C dX10_ahead_57 1 rfl rfl ?_
        obtain ⟨r_7, m_7, hk_7, h⟩ := b2_some h
        refine g_vI (As := [.int v1]) (a := 95) (ci := 10) C dX10_ahead_58 mf_X10_highOf k_719 rfl (by decide) ⟨by decide, by decide⟩ rfl rfl (Nat.le_of_ble_eq_true rfl) (by decide) rfl (c_X10_highOf N (gl Γ) C.2.2.2.2 (gw Γ) v1 m _ hk_7) ?_
        refine g_aload_n C dX10_ahead_61 0 rfl rfl ?_
        refine g_iload_n C dX10_ahead_62 2 rfl rfl ?_
        obtain ⟨r_8, m_8, hk_8, h⟩ := b2_some h
        refine g_vI (As := [.int v2]) (a := 95) (ci := 10) C dX10_ahead_63 mf_X10_highOf k_719 rfl (by decide) ⟨by decide, by decide⟩ rfl rfl (Nat.le_of_ble_eq_true rfl) (by decide) rfl (c_X10_highOf N (gl Γ) C.2.2.2.2 (gw Γ) v2 m_7 _ hk_8) ?_
        refine g_isub C dX10_ahead_66 ?_
        obtain rfl := Option.some.inj h
        exact hE 67 _ dX10_ahead_67
      · replace h := it_f c_9 h
        by_cases c_12 : v3 = (3 : Int32)
        · replace h := it_t c_12 h
          refine g_tin (tgt := 68) (off := 67) C dX10_ahead_1 (by rw [c_12]; decide) (by rw [c_12]; decide) (by rw [c_12]; rfl) (by decide) ?_
          refine g_aload_n C dX10_ahead_68 0 rfl rfl ?_
          refine g_iload_n C dX10_ahead_69 2 rfl rfl ?_
          refine g_iconst (v := (3 : Int32)) C dX10_ahead_70 (by decide) ?_
          obtain ⟨r_10, m_10, hk_10, h⟩ := b2_some h
          refine g_vI (As := [.int v2, .int (3 : Int32)]) (a := 95) (ci := 10) C dX10_ahead_71 mf_X10_proposal k_609 rfl (by decide) ⟨by decide, by decide⟩ rfl rfl (Nat.le_of_ble_eq_true rfl) (by decide) rfl (c_X10_proposal N (gl Γ) C.2.2.2.2 (gw Γ) v2 (3 : Int32) m _ hk_10) ?_
          refine g_aload_n C dX10_ahead_74 0 rfl rfl ?_
          refine g_iload_n C dX10_ahead_75 1 rfl rfl ?_
          refine g_iconst (v := (3 : Int32)) C dX10_ahead_76 (by decide) ?_
          obtain ⟨r_11, m_11, hk_11, h⟩ := b2_some h
          refine g_vI (As := [.int v1, .int (3 : Int32)]) (a := 95) (ci := 10) C dX10_ahead_77 mf_X10_proposal k_609 rfl (by decide) ⟨by decide, by decide⟩ rfl rfl (Nat.le_of_ble_eq_true rfl) (by decide) rfl (c_X10_proposal N (gl Γ) C.2.2.2.2 (gw Γ) v1 (3 : Int32) m_10 _ hk_11) ?_
          refine g_isub C dX10_ahead_80 ?_
          obtain rfl := Option.some.inj h
          exact hE 81 _ dX10_ahead_81
        · replace h := it_f c_12 h
          refine g_tout (tgt := 82) C dX10_ahead_1 (sw4 c_3 c_6 c_9 c_12) (by decide) ?_
          refine g_iload_n C dX10_ahead_82 2 rfl rfl ?_
          refine g_iload_n C dX10_ahead_83 1 rfl rfl ?_
          refine g_isub C dX10_ahead_84 ?_
          obtain rfl := Option.some.inj h
          exact hE 85 _ dX10_ahead_85
theorem c_X10_ahead (N : Nat) (l : Launch) (hst : l.stackTraces = false) (w : Om) (v1 : Int32) (v2 : Int32) (v3 : Int32) (m : Mem) (o : Int32 × Mem) (h : f_X10_ahead N v1 v2 v3 m = some o) : KI l yX10_ahead cX10_ahead 4 (some .int) 4 90 w [.ref (oa w 95), .int v1, .int v2, .int v3] m o.1 o.2 := KI_of hst (by decide +kernel) RX10 rfl (Nat.le_of_ble_eq_true rfl) (fun Γ hw hl C hE => by
  subst hw; subst hl
  exact t_X10_ahead N Γ C v1 v2 v3 m o h hE)
def Ex_X10_roundOf_2 (Γ : Gc) (cs : Nat) (b : Int32 × Mem) : Prop := (∀ (y3 : Int32) (m' : Mem), b = (y3, m') → G Γ 4 cs m' 18 [(3, .int y3)] [])
set_option maxRecDepth 100000 in
set_option maxHeartbeats 4000000 in
theorem t_X10_roundOf_2 (N : Nat) (Γ : Gc) (C : Cx Γ cX10_roundOf 4 RX10 (rmK 5 113 0)) (rc : Int32 → Int32 → Int32 → Mem → Option (Int32 × Mem)) (b : Int32 × Mem) (hE : Ex_X10_roundOf_2 Γ 0 b) (hrec : ∀ (v1 : Int32) (v2 : Int32) (v3 : Int32) (m : Mem) (b : Int32 × Mem), rc v1 v2 v3 m = some b → Ex_X10_roundOf_2 Γ 0 b → G Γ 4 0 m 2 [(0, .ref (oa (gw Γ) 95)), (1, .int v1), (2, .int v2), (3, .int v3)] []) (v1 : Int32) (v2 : Int32) (v3 : Int32) (m : Mem) (h : T_X10_roundOf_2 N rc v1 v2 v3 m = some b) : G Γ 4 0 m 2 [(0, .ref (oa (gw Γ) 95)), (1, .int v1), (2, .int v2), (3, .int v3)] [] := by
  unfold T_X10_roundOf_2 at h
  refine g_aload_n C dX10_roundOf_2 0 rfl rfl ?_
  refine g_iload_n C dX10_roundOf_3 1 rfl rfl ?_
  refine g_iload_n C dX10_roundOf_4 2 rfl rfl ?_
  refine g_iload_n C dX10_roundOf_5 3 rfl rfl ?_
  obtain ⟨r_1, m_1, hk_1, h⟩ := b2_some h
  refine g_vI (As := [.int v1, .int v2, .int v3]) (a := 95) (ci := 10) C dX10_roundOf_6 mf_X10_ahead k_723 rfl (by decide) ⟨by decide, by decide⟩ rfl rfl (Nat.le_of_ble_eq_true rfl) (by decide) rfl (c_X10_ahead N (gl Γ) C.2.2.2.2 (gw Γ) v1 v2 v3 m _ hk_1) ?_
  refine g_if_ne (tgt := 18) C dX10_roundOf_9 (by decide) (fun c_2 => ?_) (fun c_2 => ?_)
  · replace h := it_f c_2 h
    obtain rfl := Option.some.inj h
    refine g_sub [3] rfl ?_
    exact hE _ _ rfl
  · replace h := it_t c_2 h
    refine g_iinc (q := 3) (v := v3 + (1 : Int32)) (lv' := [(3, .int (v3 + (1 : Int32))), (0, .ref (oa (gw Γ) 95)), (1, .int v1), (2, .int v2)]) C dX10_roundOf_12 rfl rfl (by decide) rfl ?_
    refine g_goto (tgt := 2) C dX10_roundOf_15 (by decide) ?_
    refine g_sub [1, 2, 3, 0] rfl ?_
    exact hrec v1 v2 (v3 + (1 : Int32)) m_1 b h hE
theorem lt_X10_roundOf_2 (N : Nat) (Γ : Gc) (C : Cx Γ cX10_roundOf 4 RX10 (rmK 5 113 0)) : ∀ (n : Nat) (v1 : Int32) (v2 : Int32) (v3 : Int32) (m : Mem) (b : Int32 × Mem), L_X10_roundOf_2 N n v1 v2 v3 m = some b → Ex_X10_roundOf_2 Γ 0 b → G Γ 4 0 m 2 [(0, .ref (oa (gw Γ) 95)), (1, .int v1), (2, .int v2), (3, .int v3)] [] := by
  intro n
  induction n with
  | zero =>
    intro v1 v2 v3 m b h
    have h9 : (none : Option (Int32 × Mem)) = some b := h
    cases h9
  | succ n ih => intro v1 v2 v3 m b h hE; exact t_X10_roundOf_2 N Γ C (L_X10_roundOf_2 N n) b hE ih v1 v2 v3 m h
set_option maxRecDepth 100000 in
set_option maxHeartbeats 4000000 in
theorem t_X10_roundOf (N : Nat) (Γ : Gc) (C : Cx Γ cX10_roundOf 4 RX10 (rmK 5 113 0)) (v1 : Int32) (v2 : Int32) (m : Mem) (b : Int32 × Mem) (h : f_X10_roundOf N v1 v2 m = some b) (hE : EIn Γ 4 cX10_roundOf b) : G Γ 4 0 m 0 [(0, .ref (oa (gw Γ) 95)), (1, .int v1), (2, .int v2)] [] := by
  unfold f_X10_roundOf at h
  refine g_iconst (v := (0 : Int32)) C dX10_roundOf_0 (by decide) ?_
  refine g_istore_n (lv' := [(3, .int (0 : Int32)), (0, .ref (oa (gw Γ) 95)), (1, .int v1), (2, .int v2)]) C dX10_roundOf_1 rfl (by decide) rfl ?_
  obtain ⟨v3_3, m_3, hx, h⟩ := l2_some h
  refine g_sub [1, 2, 3, 0] rfl ?_
  refine lt_X10_roundOf_2 N Γ C N v1 v2 (0 : Int32) m _ hx ?_
  intro z3 m9 e9
  cases e9
  refine g_iload_n C dX10_roundOf_18 0 rfl rfl ?_
  obtain rfl := Option.some.inj h
  exact hE 19 _ dX10_roundOf_19
theorem c_X10_roundOf (N : Nat) (l : Launch) (hst : l.stackTraces = false) (w : Om) (v1 : Int32) (v2 : Int32) (m : Mem) (o : Int32 × Mem) (h : f_X10_roundOf N v1 v2 m = some o) : KI l yX10_roundOf cX10_roundOf 4 (some .int) 5 113 w [.ref (oa w 95), .int v1, .int v2] m o.1 o.2 := KI_of hst (by decide +kernel) RX10 rfl (Nat.le_of_ble_eq_true rfl) (fun Γ hw hl C hE => by
  subst hw; subst hl
  exact t_X10_roundOf N Γ C v1 v2 m o h hE)
set_option maxRecDepth 100000 in
set_option maxHeartbeats 4000000 in
theorem t_X10_isRanked (N : Nat) (Γ : Gc) (C : Cx Γ cX10_isRanked 2 RX10 (rmK 3 67 0)) (v1 : Int32) (m : Mem) (b : Int32 × Mem) (h : f_X10_isRanked N v1 m = some b) (hE : EZn Γ 2 cX10_isRanked b) : G Γ 2 0 m 0 [(0, .ref (oa (gw Γ) 95)), (1, .int v1)] [] := by
  unfold f_X10_isRanked at h
  refine g_aload_n C dX10_isRanked_0 0 rfl rfl ?_
  refine g_iload_n C dX10_isRanked_1 1 rfl rfl ?_
  obtain ⟨r_1, m_1, hk_1, h⟩ := b2_some h
  refine g_vI (As := [.int v1]) (a := 95) (ci := 10) C dX10_isRanked_2 mf_X10_scoresOf k_707 rfl (by decide) ⟨by decide, by decide⟩ rfl rfl (Nat.le_of_ble_eq_true rfl) (by decide) rfl (c_X10_scoresOf N (gl Γ) C.2.2.2.2 (gw Γ) v1 m _ hk_1) ?_
  refine g_if_le (tgt := 12) C dX10_isRanked_5 (by decide) (fun c_2 => ?_) (fun c_2 => ?_)
  · replace h := it_t c_2 h
    refine g_iconst (v := (0 : Int32)) C dX10_isRanked_12 (by decide) ?_
    obtain rfl := Option.some.inj h
    exact hE 13 _ (show isB (0 : Int32) = true by decide) dX10_isRanked_13
  · replace h := it_f c_2 h
    refine g_iconst (v := (1 : Int32)) C dX10_isRanked_8 (by decide) ?_
    refine g_goto (tgt := 13) C dX10_isRanked_9 (by decide) ?_
    obtain rfl := Option.some.inj h
    exact hE 13 _ (show isB (1 : Int32) = true by decide) dX10_isRanked_13
theorem c_X10_isRanked (N : Nat) (l : Launch) (hst : l.stackTraces = false) (w : Om) (v1 : Int32) (m : Mem) (o : Int32 × Mem) (h : f_X10_isRanked N v1 m = some o) : KI l yX10_isRanked cX10_isRanked 2 (some .boolean) 3 67 w [.ref (oa w 95), .int v1] m o.1 o.2 := KZ_of hst (by decide +kernel) RX10 rfl (Nat.le_of_ble_eq_true rfl) (fun Γ hw hl C hE => by
  subst hw; subst hl
  exact t_X10_isRanked N Γ C v1 m o h hE)
def Ex_X10_rankIn_5 (Γ : Gc) (cs : Nat) (b : Int32 × Mem) : Prop := (∀ (y3 : Int32) (m' : Mem), b = (y3, m') → G Γ 6 cs m' 90 [(3, .int y3)] [])
set_option maxRecDepth 100000 in
set_option maxHeartbeats 4000000 in
theorem t_X10_rankIn_81 (N : Nat) (Γ : Gc) (C : Cx Γ cX10_rankIn 6 RX10 (rmK 6 136 0)) (rc : Int32 → Int32 → Int32 → Int32 → Mem → Option (Int32 × Mem)) (b : Int32 × Mem) (hE : Ex_X10_rankIn_5 Γ 0 b) (hrec : ∀ (v1 : Int32) (v2 : Int32) (v3 : Int32) (v4 : Int32) (m : Mem) (b : Int32 × Mem), rc v1 v2 v3 v4 m = some b → Ex_X10_rankIn_5 Γ 0 b → G Γ 6 0 m 5 [(0, .ref (oa (gw Γ) 95)), (1, .int v1), (2, .int v2), (3, .int v3), (4, .int v4)] []) (v1 : Int32) (v2 : Int32) (v4 : Int32) (s0 : Int32) (m : Mem) (h : B_X10_rankIn_81 N rc v1 v2 v4 s0 m = some b) : G Γ 6 0 m 81 [(0, .ref (oa (gw Γ) 95)), (1, .int v1), (2, .int v2), (4, .int v4)] [.int s0] := by
  unfold B_X10_rankIn_81 at h
  refine g_iconst (v := (0 : Int32)) C dX10_rankIn_81 (by decide) ?_
  refine g_iadd C dX10_rankIn_82 ?_
  refine g_istore_n (lv' := [(3, .int (s0 + (0 : Int32))), (0, .ref (oa (gw Γ) 95)), (1, .int v1), (2, .int v2), (4, .int v4)]) C dX10_rankIn_83 rfl (by decide) rfl ?_
  refine g_iinc (q := 4) (v := v4 + (1 : Int32)) (lv' := [(4, .int (v4 + (1 : Int32))), (3, .int (s0 + (0 : Int32))), (0, .ref (oa (gw Γ) 95)), (1, .int v1), (2, .int v2)]) C dX10_rankIn_84 rfl rfl (by decide) rfl ?_
  refine g_goto (tgt := 5) C dX10_rankIn_87 (by decide) ?_
  refine g_sub [2, 3, 4, 1, 0] rfl ?_
  exact hrec v1 v2 (s0 + (0 : Int32)) (v4 + (1 : Int32)) m b h hE
set_option maxRecDepth 100000 in
set_option maxHeartbeats 4000000 in
theorem t_X10_rankIn_52 (N : Nat) (Γ : Gc) (C : Cx Γ cX10_rankIn 6 RX10 (rmK 6 136 0)) (rc : Int32 → Int32 → Int32 → Int32 → Mem → Option (Int32 × Mem)) (b : Int32 × Mem) (hE : Ex_X10_rankIn_5 Γ 0 b) (hrec : ∀ (v1 : Int32) (v2 : Int32) (v3 : Int32) (v4 : Int32) (m : Mem) (b : Int32 × Mem), rc v1 v2 v3 v4 m = some b → Ex_X10_rankIn_5 Γ 0 b → G Γ 6 0 m 5 [(0, .ref (oa (gw Γ) 95)), (1, .int v1), (2, .int v2), (3, .int v3), (4, .int v4)] []) (v1 : Int32) (v2 : Int32) (v3 : Int32) (v4 : Int32) (s0 : Int32) (m : Mem) (h : B_X10_rankIn_52 N rc v1 v2 v3 v4 s0 m = some b) : G Γ 6 0 m 52 [(0, .ref (oa (gw Γ) 95)), (1, .int v1), (2, .int v2), (3, .int v3), (4, .int v4)] [.int s0] := by
  unfold B_X10_rankIn_52 at h
  refine g_istore (lv' := [(5, .int s0), (0, .ref (oa (gw Γ) 95)), (1, .int v1), (2, .int v2), (3, .int v3), (4, .int v4)]) C dX10_rankIn_52 (by decide) rfl ?_
  refine g_iload_n C dX10_rankIn_54 4 rfl rfl ?_
  refine g_iload C dX10_rankIn_55 0 rfl ?_
  refine g_if_eq (tgt := 81) C dX10_rankIn_57 (by decide) (fun c_4 => ?_) (fun c_4 => ?_)
  · replace h := it_t c_4 h
    refine g_sub [1, 2, 3, 5] rfl ?_
    exact t_X10_rankIn_81 N Γ C rc b hE hrec v1 v2 v4 v3 m h
  · replace h := it_f c_4 h
    refine g_aload_n C dX10_rankIn_60 1 rfl rfl ?_
    refine g_iload C dX10_rankIn_61 5 rfl ?_
    refine g_iload_n C dX10_rankIn_63 3 rfl rfl ?_
    refine g_aload_n C dX10_rankIn_64 1 rfl rfl ?_
    refine g_iload C dX10_rankIn_65 5 rfl ?_
    refine g_iload_n C dX10_rankIn_67 3 rfl rfl ?_
    obtain ⟨r_1, m_1, hk_1, h⟩ := b2_some h
    refine g_vI (As := [.int v4, .int v2]) (a := 95) (ci := 10) C dX10_rankIn_68 mf_X10_roundOf k_727 rfl (by decide) ⟨by decide, by decide⟩ rfl rfl (Nat.le_of_ble_eq_true rfl) (by decide) rfl (c_X10_roundOf N (gl Γ) C.2.2.2.2 (gw Γ) v4 v2 m _ hk_1) ?_
    obtain ⟨r_2, m_2, hk_2, h⟩ := b2_some h
    refine g_vI (As := [.int v4, .int v2, .int r_1]) (a := 95) (ci := 10) C dX10_rankIn_71 mf_X10_ahead k_723 rfl (by decide) ⟨by decide, by decide⟩ rfl rfl (Nat.le_of_ble_eq_true rfl) (by decide) rfl (c_X10_ahead N (gl Γ) C.2.2.2.2 (gw Γ) v4 v2 r_1 m_1 _ hk_2) ?_
    refine g_if_le (tgt := 81) C dX10_rankIn_74 (by decide) (fun c_3 => ?_) (fun c_3 => ?_)
    · replace h := it_t c_3 h
      refine g_sub [1, 2, 3, 5] rfl ?_
      exact t_X10_rankIn_81 N Γ C rc b hE hrec v1 v2 v4 v3 m_2 h
    · replace h := it_f c_3 h
      refine g_iconst (v := (1 : Int32)) C dX10_rankIn_77 (by decide) ?_
      refine g_goto (tgt := 82) C dX10_rankIn_78 (by decide) ?_
      refine g_iadd C dX10_rankIn_82 ?_
      refine g_istore_n (lv' := [(3, .int (v3 + (1 : Int32))), (5, .int s0), (0, .ref (oa (gw Γ) 95)), (1, .int v1), (2, .int v2), (4, .int v4)]) C dX10_rankIn_83 rfl (by decide) rfl ?_
      refine g_iinc (q := 5) (v := v4 + (1 : Int32)) (lv' := [(4, .int (v4 + (1 : Int32))), (3, .int (v3 + (1 : Int32))), (5, .int s0), (0, .ref (oa (gw Γ) 95)), (1, .int v1), (2, .int v2)]) C dX10_rankIn_84 rfl rfl (by decide) rfl ?_
      refine g_goto (tgt := 5) C dX10_rankIn_87 (by decide) ?_
      refine g_sub [3, 4, 5, 1, 0] rfl ?_
      exact hrec v1 v2 (v3 + (1 : Int32)) (v4 + (1 : Int32)) m_2 b h hE
set_option maxRecDepth 100000 in
set_option maxHeartbeats 4000000 in
theorem t_X10_rankIn_51 (N : Nat) (Γ : Gc) (C : Cx Γ cX10_rankIn 6 RX10 (rmK 6 136 0)) (rc : Int32 → Int32 → Int32 → Int32 → Mem → Option (Int32 × Mem)) (b : Int32 × Mem) (hE : Ex_X10_rankIn_5 Γ 0 b) (hrec : ∀ (v1 : Int32) (v2 : Int32) (v3 : Int32) (v4 : Int32) (m : Mem) (b : Int32 × Mem), rc v1 v2 v3 v4 m = some b → Ex_X10_rankIn_5 Γ 0 b → G Γ 6 0 m 5 [(0, .ref (oa (gw Γ) 95)), (1, .int v1), (2, .int v2), (3, .int v3), (4, .int v4)] []) (v1 : Int32) (v2 : Int32) (v3 : Int32) (v4 : Int32) (m : Mem) (h : B_X10_rankIn_51 N rc v1 v2 v3 v4 m = some b) : G Γ 6 0 m 51 [(0, .ref (oa (gw Γ) 95)), (1, .int v1), (2, .int v2), (3, .int v3), (4, .int v4)] [] := by
  unfold B_X10_rankIn_51 at h
  refine g_iconst (v := (0 : Int32)) C dX10_rankIn_51 (by decide) ?_
  refine g_sub [0, 1, 2, 3, 4] rfl ?_
  exact t_X10_rankIn_52 N Γ C rc b hE hrec v1 v2 v3 v4 (0 : Int32) m h
set_option maxRecDepth 100000 in
set_option maxHeartbeats 4000000 in
theorem t_X10_rankIn_47 (N : Nat) (Γ : Gc) (C : Cx Γ cX10_rankIn 6 RX10 (rmK 6 136 0)) (rc : Int32 → Int32 → Int32 → Int32 → Mem → Option (Int32 × Mem)) (b : Int32 × Mem) (hE : Ex_X10_rankIn_5 Γ 0 b) (hrec : ∀ (v1 : Int32) (v2 : Int32) (v3 : Int32) (v4 : Int32) (m : Mem) (b : Int32 × Mem), rc v1 v2 v3 v4 m = some b → Ex_X10_rankIn_5 Γ 0 b → G Γ 6 0 m 5 [(0, .ref (oa (gw Γ) 95)), (1, .int v1), (2, .int v2), (3, .int v3), (4, .int v4)] []) (v1 : Int32) (v2 : Int32) (v3 : Int32) (v4 : Int32) (m : Mem) (h : B_X10_rankIn_47 N rc v1 v2 v3 v4 m = some b) : G Γ 6 0 m 47 [(0, .ref (oa (gw Γ) 95)), (1, .int v1), (2, .int v2), (3, .int v3), (4, .int v4)] [] := by
  unfold B_X10_rankIn_47 at h
  refine g_iconst (v := (1 : Int32)) C dX10_rankIn_47 (by decide) ?_
  refine g_goto (tgt := 52) C dX10_rankIn_48 (by decide) ?_
  refine g_sub [0, 1, 2, 3, 4] rfl ?_
  exact t_X10_rankIn_52 N Γ C rc b hE hrec v1 v2 v3 v4 (1 : Int32) m h
set_option maxRecDepth 100000 in
set_option maxHeartbeats 4000000 in
theorem t_X10_rankIn_5 (N : Nat) (Γ : Gc) (C : Cx Γ cX10_rankIn 6 RX10 (rmK 6 136 0)) (rc : Int32 → Int32 → Int32 → Int32 → Mem → Option (Int32 × Mem)) (b : Int32 × Mem) (hE : Ex_X10_rankIn_5 Γ 0 b) (hrec : ∀ (v1 : Int32) (v2 : Int32) (v3 : Int32) (v4 : Int32) (m : Mem) (b : Int32 × Mem), rc v1 v2 v3 v4 m = some b → Ex_X10_rankIn_5 Γ 0 b → G Γ 6 0 m 5 [(0, .ref (oa (gw Γ) 95)), (1, .int v1), (2, .int v2), (3, .int v3), (4, .int v4)] []) (v1 : Int32) (v2 : Int32) (v3 : Int32) (v4 : Int32) (m : Mem) (h : T_X10_rankIn_5 N rc v1 v2 v3 v4 m = some b) : G Γ 6 0 m 5 [(0, .ref (oa (gw Γ) 95)), (1, .int v1), (2, .int v2), (3, .int v3), (4, .int v4)] [] := by
  unfold T_X10_rankIn_5 at h
  refine g_iload C dX10_rankIn_5 4 rfl ?_
  refine g_aload_n C dX10_rankIn_7 0 rfl rfl ?_
  refine g_getT (b := 96) (ci := 10) (j := 1) C dX10_rankIn_8 rfl (by decide) rfl inT_X10 (by decide) k_506 rfl rfl rfl rfl ?_
  refine g_iconst (v := (2 : Int32)) C dX10_rankIn_11 (by decide) ?_
  refine g_iald' (j := 2) C dX10_rankIn_12 (okA_of rfl rfl (by decide)) (by decide) ?_
  refine g_icmp_ge (tgt := 90) C dX10_rankIn_13 (by decide) (fun c_11 => ?_) (fun c_11 => ?_)
  · replace h := it_t c_11 h
    obtain rfl := Option.some.inj h
    refine g_sub [3] rfl ?_
    exact hE _ _ rfl
  · replace h := it_f c_11 h
    refine g_iload C dX10_rankIn_16 4 rfl ?_
    refine g_iload_n C dX10_rankIn_18 2 rfl rfl ?_
    refine g_icmp_eq (tgt := 51) C dX10_rankIn_19 (by decide) (fun c_10 => ?_) (fun c_10 => ?_)
    · replace h := it_t c_10 h
      refine g_sub [0, 1, 2, 3, 4] rfl ?_
      exact t_X10_rankIn_51 N Γ C rc b hE hrec v1 v2 v3 v4 m h
    · replace h := it_f c_10 h
      refine g_aload_n C dX10_rankIn_22 0 rfl rfl ?_
      refine g_iload C dX10_rankIn_23 4 rfl ?_
      obtain ⟨r_5, m_5, hk_5, h⟩ := b2_some h
      refine g_vI (As := [.int v4]) (a := 95) (ci := 10) C dX10_rankIn_25 mf_X10_isRanked k_731 rfl (by decide) ⟨by decide, by decide⟩ rfl rfl (Nat.le_of_ble_eq_true rfl) (by decide) rfl (c_X10_isRanked N (gl Γ) C.2.2.2.2 (gw Γ) v4 m _ hk_5) ?_
      refine g_if_eq (tgt := 51) C dX10_rankIn_28 (by decide) (fun c_9 => ?_) (fun c_9 => ?_)
      · replace h := it_t c_9 h
        refine g_sub [0, 1, 2, 3, 4] rfl ?_
        exact t_X10_rankIn_51 N Γ C rc b hE hrec v1 v2 v3 v4 m_5 h
      · replace h := it_f c_9 h
        refine g_iload_n C dX10_rankIn_31 1 rfl rfl ?_
        refine g_iconst (v := (-1 : Int32)) C dX10_rankIn_32 (by decide) ?_
        refine g_icmp_eq (tgt := 47) C dX10_rankIn_33 (by decide) (fun c_8 => ?_) (fun c_8 => ?_)
        · replace h := it_t c_8 h
          refine g_sub [0, 1, 2, 3, 4] rfl ?_
          exact t_X10_rankIn_47 N Γ C rc b hE hrec v1 v2 v3 v4 m_5 h
        · replace h := it_f c_8 h
          refine g_aload_n C dX10_rankIn_36 0 rfl rfl ?_
          refine g_iload C dX10_rankIn_37 4 rfl ?_
          refine g_iconst (v := (0 : Int32)) C dX10_rankIn_39 (by decide) ?_
          obtain ⟨r_6, m_6, hk_6, h⟩ := b2_some h
          refine g_vI (As := [.int v4, .int (0 : Int32)]) (a := 95) (ci := 10) C dX10_rankIn_40 mf_X10_proposal k_609 rfl (by decide) ⟨by decide, by decide⟩ rfl rfl (Nat.le_of_ble_eq_true rfl) (by decide) rfl (c_X10_proposal N (gl Γ) C.2.2.2.2 (gw Γ) v4 (0 : Int32) m_5 _ hk_6) ?_
          refine g_iload_n C dX10_rankIn_43 1 rfl rfl ?_
          refine g_icmp_ne (tgt := 51) C dX10_rankIn_44 (by decide) (fun c_7 => ?_) (fun c_7 => ?_)
          · replace h := it_f c_7 h
            refine g_sub [0, 1, 2, 3, 4] rfl ?_
            exact t_X10_rankIn_51 N Γ C rc b hE hrec v1 v2 v3 v4 m_6 h
          · replace h := it_t c_7 h
            refine g_sub [0, 1, 2, 3, 4] rfl ?_
            exact t_X10_rankIn_47 N Γ C rc b hE hrec v1 v2 v3 v4 m_6 h
theorem lt_X10_rankIn_5 (N : Nat) (Γ : Gc) (C : Cx Γ cX10_rankIn 6 RX10 (rmK 6 136 0)) : ∀ (n : Nat) (v1 : Int32) (v2 : Int32) (v3 : Int32) (v4 : Int32) (m : Mem) (b : Int32 × Mem), L_X10_rankIn_5 N n v1 v2 v3 v4 m = some b → Ex_X10_rankIn_5 Γ 0 b → G Γ 6 0 m 5 [(0, .ref (oa (gw Γ) 95)), (1, .int v1), (2, .int v2), (3, .int v3), (4, .int v4)] [] := by
  intro n
  induction n with
  | zero =>
    intro v1 v2 v3 v4 m b h
    have h9 : (none : Option (Int32 × Mem)) = some b := h
    cases h9
  | succ n ih => intro v1 v2 v3 v4 m b h hE; exact t_X10_rankIn_5 N Γ C (L_X10_rankIn_5 N n) b hE ih v1 v2 v3 v4 m h
set_option maxRecDepth 100000 in
set_option maxHeartbeats 4000000 in
theorem t_X10_rankIn (N : Nat) (Γ : Gc) (C : Cx Γ cX10_rankIn 6 RX10 (rmK 6 136 0)) (v1 : Int32) (v2 : Int32) (m : Mem) (b : Int32 × Mem) (h : f_X10_rankIn N v1 v2 m = some b) (hE : EIn Γ 6 cX10_rankIn b) : G Γ 6 0 m 0 [(0, .ref (oa (gw Γ) 95)), (1, .int v1), (2, .int v2)] [] := by
  unfold f_X10_rankIn at h
  refine g_iconst (v := (0 : Int32)) C dX10_rankIn_0 (by decide) ?_
  refine g_istore_n (lv' := [(3, .int (0 : Int32)), (0, .ref (oa (gw Γ) 95)), (1, .int v1), (2, .int v2)]) C dX10_rankIn_1 rfl (by decide) rfl ?_
  refine g_iconst (v := (0 : Int32)) C dX10_rankIn_2 (by decide) ?_
  refine g_istore (lv' := [(4, .int (0 : Int32)), (3, .int (0 : Int32)), (0, .ref (oa (gw Γ) 95)), (1, .int v1), (2, .int v2)]) C dX10_rankIn_3 (by decide) rfl ?_
  obtain ⟨v3_12, m_12, hx, h⟩ := l2_some h
  refine g_sub [2, 3, 4, 1, 0] rfl ?_
  refine lt_X10_rankIn_5 N Γ C N v1 v2 (0 : Int32) (0 : Int32) m _ hx ?_
  intro z3 m9 e9
  cases e9
  refine g_iload_n C dX10_rankIn_90 0 rfl rfl ?_
  obtain rfl := Option.some.inj h
  exact hE 91 _ dX10_rankIn_91
theorem c_X10_rankIn (N : Nat) (l : Launch) (hst : l.stackTraces = false) (w : Om) (v1 : Int32) (v2 : Int32) (m : Mem) (o : Int32 × Mem) (h : f_X10_rankIn N v1 v2 m = some o) : KI l yX10_rankIn cX10_rankIn 6 (some .int) 6 136 w [.ref (oa w 95), .int v1, .int v2] m o.1 o.2 := KI_of hst (by decide +kernel) RX10 rfl (Nat.le_of_ble_eq_true rfl) (fun Γ hw hl C hE => by
  subst hw; subst hl
  exact t_X10_rankIn N Γ C v1 v2 m o h hE)
set_option maxRecDepth 100000 in
set_option maxHeartbeats 4000000 in
theorem t_X10_rank_26 (N : Nat) (Γ : Gc) (C : Cx Γ cX10_rank 2 RX10 (rmK 7 161 0)) (b : Int32 × Mem) (hE : EIn Γ 2 cX10_rank b) (v1 : Int32) (s0 : Int32) (m : Mem) (h : B_X10_rank_26 N v1 s0 m = some b) : G Γ 2 0 m 26 [(0, .ref (oa (gw Γ) 95)), (1, .int v1)] [.int s0, .ref (oa (gw Γ) 95)] := by
  unfold B_X10_rank_26 at h
  obtain ⟨m_3, e_3, h⟩ := wr_some h
  refine g_putI (ci := 10) (j := 0) C dX10_rank_26 rfl (by decide) rfl inT_X10 (by decide) k_505 tyX10 tyX10_ok nmX10 rfl rfl rfl rfl rfl (G_m e_3 ?_)
  refine g_aload_n C dX10_rank_29 0 rfl rfl ?_
  refine g_getI (ci := 10) (j := 0) C dX10_rank_30 rfl (by decide) rfl inT_X10 (by decide) k_505 rfl rfl ?_
  refine g_if_le (tgt := 40) C dX10_rank_33 (by decide) (fun c_6 => ?_) (fun c_6 => ?_)
  · replace h := it_t c_6 h
    refine g_aload_n C dX10_rank_40 0 rfl rfl ?_
    refine g_aload_n C dX10_rank_41 0 rfl rfl ?_
    refine g_iload_n C dX10_rank_42 1 rfl rfl ?_
    refine g_iconst (v := (0 : Int32)) C dX10_rank_43 (by decide) ?_
    obtain ⟨r_4, m_4, hk_4, h⟩ := b2_some h
    refine g_vI (As := [.int v1, .int (0 : Int32)]) (a := 95) (ci := 10) C dX10_rank_44 mf_X10_proposal k_609 rfl (by decide) ⟨by decide, by decide⟩ rfl rfl (Nat.le_of_ble_eq_true rfl) (by decide) rfl (c_X10_proposal N (gl Γ) C.2.2.2.2 (gw Γ) v1 (0 : Int32) m_3 _ hk_4) ?_
    refine g_iload_n C dX10_rank_47 1 rfl rfl ?_
    obtain ⟨r_5, m_5, hk_5, h⟩ := b2_some h
    refine g_vI (As := [.int r_4, .int v1]) (a := 95) (ci := 10) C dX10_rank_48 mf_X10_rankIn k_735 rfl (by decide) ⟨by decide, by decide⟩ rfl rfl (Nat.le_of_ble_eq_true rfl) (by decide) rfl (c_X10_rankIn N (gl Γ) C.2.2.2.2 (gw Γ) r_4 v1 m_4 _ hk_5) ?_
    obtain rfl := Option.some.inj h
    exact hE 51 _ dX10_rank_51
  · replace h := it_f c_6 h
    refine g_iconst (v := (0 : Int32)) C dX10_rank_36 (by decide) ?_
    refine g_goto (tgt := 51) C dX10_rank_37 (by decide) ?_
    obtain rfl := Option.some.inj h
    exact hE 51 _ dX10_rank_51
set_option maxRecDepth 100000 in
set_option maxHeartbeats 4000000 in
theorem t_X10_rank (N : Nat) (Γ : Gc) (C : Cx Γ cX10_rank 2 RX10 (rmK 7 161 0)) (v1 : Int32) (m : Mem) (b : Int32 × Mem) (h : f_X10_rank N v1 m = some b) (hE : EIn Γ 2 cX10_rank b) : G Γ 2 0 m 0 [(0, .ref (oa (gw Γ) 95)), (1, .int v1)] [] := by
  unfold f_X10_rank at h
  refine g_aload_n C dX10_rank_0 0 rfl rfl ?_
  refine g_aload_n C dX10_rank_1 0 rfl rfl ?_
  refine g_iload_n C dX10_rank_2 1 rfl rfl ?_
  obtain ⟨r_1, m_1, hk_1, h⟩ := b2_some h
  refine g_vI (As := [.int v1]) (a := 95) (ci := 10) C dX10_rank_3 mf_X10_isProposal k_629 rfl (by decide) ⟨by decide, by decide⟩ rfl rfl (Nat.le_of_ble_eq_true rfl) (by decide) rfl (c_X10_isProposal N (gl Γ) C.2.2.2.2 (gw Γ) v1 m _ hk_1) ?_
  refine g_if_ne (tgt := 13) C dX10_rank_6 (by decide) (fun c_8 => ?_) (fun c_8 => ?_)
  · replace h := it_f c_8 h
    refine g_aload_n C dX10_rank_13 0 rfl rfl ?_
    refine g_iload_n C dX10_rank_14 1 rfl rfl ?_
    obtain ⟨r_2, m_2, hk_2, h⟩ := b2_some h
    refine g_vI (As := [.int v1]) (a := 95) (ci := 10) C dX10_rank_15 mf_X10_isRanked k_731 rfl (by decide) ⟨by decide, by decide⟩ rfl rfl (Nat.le_of_ble_eq_true rfl) (by decide) rfl (c_X10_isRanked N (gl Γ) C.2.2.2.2 (gw Γ) v1 m_1 _ hk_2) ?_
    refine g_if_eq (tgt := 25) C dX10_rank_18 (by decide) (fun c_7 => ?_) (fun c_7 => ?_)
    · replace h := it_t c_7 h
      refine g_iconst (v := (2 : Int32)) C dX10_rank_25 (by decide) ?_
      refine g_sub [0, 1] rfl ?_
      exact t_X10_rank_26 N Γ C b hE v1 (2 : Int32) m_2 h
    · replace h := it_f c_7 h
      refine g_iconst (v := (0 : Int32)) C dX10_rank_21 (by decide) ?_
      refine g_goto (tgt := 26) C dX10_rank_22 (by decide) ?_
      refine g_sub [0, 1] rfl ?_
      exact t_X10_rank_26 N Γ C b hE v1 (0 : Int32) m_2 h
  · replace h := it_t c_8 h
    refine g_iconst (v := (1 : Int32)) C dX10_rank_9 (by decide) ?_
    refine g_goto (tgt := 26) C dX10_rank_10 (by decide) ?_
    refine g_sub [0, 1] rfl ?_
    exact t_X10_rank_26 N Γ C b hE v1 (1 : Int32) m_1 h
theorem c_X10_rank (N : Nat) (l : Launch) (hst : l.stackTraces = false) (w : Om) (v1 : Int32) (m : Mem) (o : Int32 × Mem) (h : f_X10_rank N v1 m = some o) : KI l yX10_rank cX10_rank 2 (some .int) 7 161 w [.ref (oa w 95), .int v1] m o.1 o.2 := KI_of hst (by decide +kernel) RX10 rfl (Nat.le_of_ble_eq_true rfl) (fun Γ hw hl C hE => by
  subst hw; subst hl
  exact t_X10_rank N Γ C v1 m o h hE)
def Ex_X10_rankedIn_2 (Γ : Gc) (cs : Nat) (b : (Mem) ⊕ (Int32 × Mem)) : Prop := (∀  (m' : Mem), b = .inl (m') → G Γ 5 cs m' 65 [] []) ∧ (∀ (y3 : Int32) (m' : Mem), b = .inr ((y3, m')) → G Γ 5 cs m' 57 [(3, .int y3)] [])
set_option maxRecDepth 100000 in
set_option maxHeartbeats 4000000 in
theorem t_X10_rankedIn_40 (N : Nat) (Γ : Gc) (C : Cx Γ cX10_rankedIn 5 RX10 (rmK 7 161 0)) (rc : Int32 → Int32 → Int32 → Mem → Option ((Mem) ⊕ (Int32 × Mem))) (b : (Mem) ⊕ (Int32 × Mem)) (hE : Ex_X10_rankedIn_2 Γ 0 b) (hrec : ∀ (v1 : Int32) (v2 : Int32) (v3 : Int32) (m : Mem) (b : (Mem) ⊕ (Int32 × Mem)), rc v1 v2 v3 m = some b → Ex_X10_rankedIn_2 Γ 0 b → G Γ 5 0 m 2 [(0, .ref (oa (gw Γ) 95)), (1, .int v1), (2, .int v2), (3, .int v3)] []) (v1 : Int32) (v2 : Int32) (v3 : Int32) (s0 : Int32) (m : Mem) (h : B_X10_rankedIn_40 N rc v1 v2 v3 s0 m = some b) : G Γ 5 0 m 40 [(0, .ref (oa (gw Γ) 95)), (1, .int v1), (2, .int v2), (3, .int v3)] [.int s0] := by
  unfold B_X10_rankedIn_40 at h
  refine g_istore (lv' := [(4, .int s0), (0, .ref (oa (gw Γ) 95)), (1, .int v1), (2, .int v2), (3, .int v3)]) C dX10_rankedIn_40 (by decide) rfl ?_
  refine g_iload C dX10_rankedIn_42 0 rfl ?_
  refine g_if_eq (tgt := 59) C dX10_rankedIn_44 (by decide) (fun c_4 => ?_) (fun c_4 => ?_)
  · replace h := it_t c_4 h
    refine g_iinc (q := 4) (v := v3 + (1 : Int32)) (lv' := [(3, .int (v3 + (1 : Int32))), (4, .int s0), (0, .ref (oa (gw Γ) 95)), (1, .int v1), (2, .int v2)]) C dX10_rankedIn_59 rfl rfl (by decide) rfl ?_
    refine g_goto (tgt := 2) C dX10_rankedIn_62 (by decide) ?_
    refine g_sub [2, 3, 4, 0] rfl ?_
    exact hrec v1 v2 (v3 + (1 : Int32)) m b h hE
  · replace h := it_f c_4 h
    refine g_aload_n C dX10_rankedIn_47 1 rfl rfl ?_
    refine g_iload_n C dX10_rankedIn_48 2 rfl rfl ?_
    refine g_iload_n C dX10_rankedIn_49 4 rfl rfl ?_
    obtain ⟨r_2, m_2, hk_2, h⟩ := b2_some h
    refine g_vI (As := [.int v1, .int v3]) (a := 95) (ci := 10) C dX10_rankedIn_50 mf_X10_rankIn k_735 rfl (by decide) ⟨by decide, by decide⟩ rfl rfl (Nat.le_of_ble_eq_true rfl) (by decide) rfl (c_X10_rankIn N (gl Γ) C.2.2.2.2 (gw Γ) v1 v3 m _ hk_2) ?_
    refine g_iload_n C dX10_rankedIn_53 3 rfl rfl ?_
    refine g_icmp_ne (tgt := 59) C dX10_rankedIn_54 (by decide) (fun c_3 => ?_) (fun c_3 => ?_)
    · replace h := it_f c_3 h
      refine g_iinc (q := 4) (v := v3 + (1 : Int32)) (lv' := [(3, .int (v3 + (1 : Int32))), (4, .int s0), (0, .ref (oa (gw Γ) 95)), (1, .int v1), (2, .int v2)]) C dX10_rankedIn_59 rfl rfl (by decide) rfl ?_
      refine g_goto (tgt := 2) C dX10_rankedIn_62 (by decide) ?_
      refine g_sub [2, 3, 4, 0] rfl ?_
      exact hrec v1 v2 (v3 + (1 : Int32)) m_2 b h hE
    · replace h := it_t c_3 h
      obtain rfl := Option.some.inj h
      refine g_sub [4] rfl ?_
      exact hE.2 _ _ rfl
set_option maxRecDepth 100000 in
set_option maxHeartbeats 4000000 in
theorem t_X10_rankedIn_39 (N : Nat) (Γ : Gc) (C : Cx Γ cX10_rankedIn 5 RX10 (rmK 7 161 0)) (rc : Int32 → Int32 → Int32 → Mem → Option ((Mem) ⊕ (Int32 × Mem))) (b : (Mem) ⊕ (Int32 × Mem)) (hE : Ex_X10_rankedIn_2 Γ 0 b) (hrec : ∀ (v1 : Int32) (v2 : Int32) (v3 : Int32) (m : Mem) (b : (Mem) ⊕ (Int32 × Mem)), rc v1 v2 v3 m = some b → Ex_X10_rankedIn_2 Γ 0 b → G Γ 5 0 m 2 [(0, .ref (oa (gw Γ) 95)), (1, .int v1), (2, .int v2), (3, .int v3)] []) (v1 : Int32) (v2 : Int32) (v3 : Int32) (m : Mem) (h : B_X10_rankedIn_39 N rc v1 v2 v3 m = some b) : G Γ 5 0 m 39 [(0, .ref (oa (gw Γ) 95)), (1, .int v1), (2, .int v2), (3, .int v3)] [] := by
  unfold B_X10_rankedIn_39 at h
  refine g_iconst (v := (0 : Int32)) C dX10_rankedIn_39 (by decide) ?_
  refine g_sub [0, 1, 2, 3] rfl ?_
  exact t_X10_rankedIn_40 N Γ C rc b hE hrec v1 v2 v3 (0 : Int32) m h
set_option maxRecDepth 100000 in
set_option maxHeartbeats 4000000 in
theorem t_X10_rankedIn_35 (N : Nat) (Γ : Gc) (C : Cx Γ cX10_rankedIn 5 RX10 (rmK 7 161 0)) (rc : Int32 → Int32 → Int32 → Mem → Option ((Mem) ⊕ (Int32 × Mem))) (b : (Mem) ⊕ (Int32 × Mem)) (hE : Ex_X10_rankedIn_2 Γ 0 b) (hrec : ∀ (v1 : Int32) (v2 : Int32) (v3 : Int32) (m : Mem) (b : (Mem) ⊕ (Int32 × Mem)), rc v1 v2 v3 m = some b → Ex_X10_rankedIn_2 Γ 0 b → G Γ 5 0 m 2 [(0, .ref (oa (gw Γ) 95)), (1, .int v1), (2, .int v2), (3, .int v3)] []) (v1 : Int32) (v2 : Int32) (v3 : Int32) (m : Mem) (h : B_X10_rankedIn_35 N rc v1 v2 v3 m = some b) : G Γ 5 0 m 35 [(0, .ref (oa (gw Γ) 95)), (1, .int v1), (2, .int v2), (3, .int v3)] [] := by
  unfold B_X10_rankedIn_35 at h
  refine g_iconst (v := (1 : Int32)) C dX10_rankedIn_35 (by decide) ?_
  refine g_goto (tgt := 40) C dX10_rankedIn_36 (by decide) ?_
  refine g_sub [0, 1, 2, 3] rfl ?_
  exact t_X10_rankedIn_40 N Γ C rc b hE hrec v1 v2 v3 (1 : Int32) m h
set_option maxRecDepth 100000 in
set_option maxHeartbeats 4000000 in
theorem t_X10_rankedIn_2 (N : Nat) (Γ : Gc) (C : Cx Γ cX10_rankedIn 5 RX10 (rmK 7 161 0)) (rc : Int32 → Int32 → Int32 → Mem → Option ((Mem) ⊕ (Int32 × Mem))) (b : (Mem) ⊕ (Int32 × Mem)) (hE : Ex_X10_rankedIn_2 Γ 0 b) (hrec : ∀ (v1 : Int32) (v2 : Int32) (v3 : Int32) (m : Mem) (b : (Mem) ⊕ (Int32 × Mem)), rc v1 v2 v3 m = some b → Ex_X10_rankedIn_2 Γ 0 b → G Γ 5 0 m 2 [(0, .ref (oa (gw Γ) 95)), (1, .int v1), (2, .int v2), (3, .int v3)] []) (v1 : Int32) (v2 : Int32) (v3 : Int32) (m : Mem) (h : T_X10_rankedIn_2 N rc v1 v2 v3 m = some b) : G Γ 5 0 m 2 [(0, .ref (oa (gw Γ) 95)), (1, .int v1), (2, .int v2), (3, .int v3)] [] := by
  unfold T_X10_rankedIn_2 at h
  refine g_iload_n C dX10_rankedIn_2 3 rfl rfl ?_
  refine g_aload_n C dX10_rankedIn_3 0 rfl rfl ?_
  refine g_getT (b := 96) (ci := 10) (j := 1) C dX10_rankedIn_4 rfl (by decide) rfl inT_X10 (by decide) k_506 rfl rfl rfl rfl ?_
  refine g_iconst (v := (2 : Int32)) C dX10_rankedIn_7 (by decide) ?_
  refine g_iald' (j := 2) C dX10_rankedIn_8 (okA_of rfl rfl (by decide)) (by decide) ?_
  refine g_icmp_ge (tgt := 65) C dX10_rankedIn_9 (by decide) (fun c_9 => ?_) (fun c_9 => ?_)
  · replace h := it_t c_9 h
    obtain rfl := Option.some.inj h
    refine g_sub [] rfl ?_
    exact hE.1 _ rfl
  · replace h := it_f c_9 h
    refine g_aload_n C dX10_rankedIn_12 0 rfl rfl ?_
    refine g_iload_n C dX10_rankedIn_13 3 rfl rfl ?_
    obtain ⟨r_1, m_1, hk_1, h⟩ := b2_some h
    refine g_vI (As := [.int v3]) (a := 95) (ci := 10) C dX10_rankedIn_14 mf_X10_isRanked k_731 rfl (by decide) ⟨by decide, by decide⟩ rfl rfl (Nat.le_of_ble_eq_true rfl) (by decide) rfl (c_X10_isRanked N (gl Γ) C.2.2.2.2 (gw Γ) v3 m _ hk_1) ?_
    refine g_if_eq (tgt := 39) C dX10_rankedIn_17 (by decide) (fun c_8 => ?_) (fun c_8 => ?_)
    · replace h := it_t c_8 h
      refine g_sub [0, 1, 2, 3] rfl ?_
      exact t_X10_rankedIn_39 N Γ C rc b hE hrec v1 v2 v3 m_1 h
    · replace h := it_f c_8 h
      refine g_iload_n C dX10_rankedIn_20 1 rfl rfl ?_
      refine g_iconst (v := (-1 : Int32)) C dX10_rankedIn_21 (by decide) ?_
      refine g_icmp_eq (tgt := 35) C dX10_rankedIn_22 (by decide) (fun c_7 => ?_) (fun c_7 => ?_)
      · replace h := it_t c_7 h
        refine g_sub [0, 1, 2, 3] rfl ?_
        exact t_X10_rankedIn_35 N Γ C rc b hE hrec v1 v2 v3 m_1 h
      · replace h := it_f c_7 h
        refine g_aload_n C dX10_rankedIn_25 0 rfl rfl ?_
        refine g_iload_n C dX10_rankedIn_26 3 rfl rfl ?_
        refine g_iconst (v := (0 : Int32)) C dX10_rankedIn_27 (by decide) ?_
        obtain ⟨r_5, m_5, hk_5, h⟩ := b2_some h
        refine g_vI (As := [.int v3, .int (0 : Int32)]) (a := 95) (ci := 10) C dX10_rankedIn_28 mf_X10_proposal k_609 rfl (by decide) ⟨by decide, by decide⟩ rfl rfl (Nat.le_of_ble_eq_true rfl) (by decide) rfl (c_X10_proposal N (gl Γ) C.2.2.2.2 (gw Γ) v3 (0 : Int32) m_1 _ hk_5) ?_
        refine g_iload_n C dX10_rankedIn_31 1 rfl rfl ?_
        refine g_icmp_ne (tgt := 39) C dX10_rankedIn_32 (by decide) (fun c_6 => ?_) (fun c_6 => ?_)
        · replace h := it_f c_6 h
          refine g_sub [0, 1, 2, 3] rfl ?_
          exact t_X10_rankedIn_39 N Γ C rc b hE hrec v1 v2 v3 m_5 h
        · replace h := it_t c_6 h
          refine g_sub [0, 1, 2, 3] rfl ?_
          exact t_X10_rankedIn_35 N Γ C rc b hE hrec v1 v2 v3 m_5 h
theorem lt_X10_rankedIn_2 (N : Nat) (Γ : Gc) (C : Cx Γ cX10_rankedIn 5 RX10 (rmK 7 161 0)) : ∀ (n : Nat) (v1 : Int32) (v2 : Int32) (v3 : Int32) (m : Mem) (b : (Mem) ⊕ (Int32 × Mem)), L_X10_rankedIn_2 N n v1 v2 v3 m = some b → Ex_X10_rankedIn_2 Γ 0 b → G Γ 5 0 m 2 [(0, .ref (oa (gw Γ) 95)), (1, .int v1), (2, .int v2), (3, .int v3)] [] := by
  intro n
  induction n with
  | zero =>
    intro v1 v2 v3 m b h
    have h9 : (none : Option ((Mem) ⊕ (Int32 × Mem))) = some b := h
    cases h9
  | succ n ih => intro v1 v2 v3 m b h hE; exact t_X10_rankedIn_2 N Γ C (L_X10_rankedIn_2 N n) b hE ih v1 v2 v3 m h
set_option maxRecDepth 100000 in
set_option maxHeartbeats 4000000 in
theorem t_X10_rankedIn (N : Nat) (Γ : Gc) (C : Cx Γ cX10_rankedIn 5 RX10 (rmK 7 161 0)) (v1 : Int32) (v2 : Int32) (m : Mem) (b : Int32 × Mem) (h : f_X10_rankedIn N v1 v2 m = some b) (hE : EIn Γ 5 cX10_rankedIn b) : G Γ 5 0 m 0 [(0, .ref (oa (gw Γ) 95)), (1, .int v1), (2, .int v2)] [] := by
  unfold f_X10_rankedIn at h
  refine g_iconst (v := (0 : Int32)) C dX10_rankedIn_0 (by decide) ?_
  refine g_istore_n (lv' := [(3, .int (0 : Int32)), (0, .ref (oa (gw Γ) 95)), (1, .int v1), (2, .int v2)]) C dX10_rankedIn_1 rfl (by decide) rfl ?_
  obtain ⟨x9, hx, h⟩ := ob_some h
  refine g_sub [1, 2, 3, 0] rfl ?_
  refine lt_X10_rankedIn_2 N Γ C N v1 v2 (0 : Int32) m _ hx ?_
  refine ⟨?_, ?_⟩
  · intro  m_10 e9
    subst e9
    replace h : (some ((-1 : Int32), m_10)) = some b := h
    refine g_iconst (v := (-1 : Int32)) C dX10_rankedIn_65 (by decide) ?_
    obtain rfl := Option.some.inj h
    exact hE 66 _ dX10_rankedIn_66
  · intro v3_10 m_10 e9
    subst e9
    replace h : (some (v3_10, m_10)) = some b := h
    refine g_iload_n C dX10_rankedIn_57 0 rfl rfl ?_
    obtain rfl := Option.some.inj h
    exact hE 58 _ dX10_rankedIn_58
theorem c_X10_rankedIn (N : Nat) (l : Launch) (hst : l.stackTraces = false) (w : Om) (v1 : Int32) (v2 : Int32) (m : Mem) (o : Int32 × Mem) (h : f_X10_rankedIn N v1 v2 m = some o) : KI l yX10_rankedIn cX10_rankedIn 5 (some .int) 7 161 w [.ref (oa w 95), .int v1, .int v2] m o.1 o.2 := KI_of hst (by decide +kernel) RX10 rfl (Nat.le_of_ble_eq_true rfl) (fun Γ hw hl C hE => by
  subst hw; subst hl
  exact t_X10_rankedIn N Γ C v1 v2 m o h hE)
set_option maxRecDepth 100000 in
set_option maxHeartbeats 4000000 in
theorem t_X10_ranked_39 (N : Nat) (Γ : Gc) (C : Cx Γ cX10_ranked 4 RX10 (rmK 8 185 0)) (b : Int32 × Mem) (hE : EIn Γ 4 cX10_ranked b) (s0 : Int32) (m : Mem) (h : B_X10_ranked_39 N s0 m = some b) : G Γ 4 0 m 39 [(0, .ref (oa (gw Γ) 95))] [.int s0] := by
  unfold B_X10_ranked_39 at h
  refine g_istore_n (lv' := [(3, .int s0), (0, .ref (oa (gw Γ) 95))]) C dX10_ranked_39 rfl (by decide) rfl ?_
  refine g_iload_n C dX10_ranked_40 0 rfl rfl ?_
  refine g_iconst (v := (-1 : Int32)) C dX10_ranked_41 (by decide) ?_
  refine g_icmp_ne (tgt := 53) C dX10_ranked_42 (by decide) (fun c_4 => ?_) (fun c_4 => ?_)
  · replace h := it_f c_4 h
    refine g_iload_n C dX10_ranked_53 0 rfl rfl ?_
    obtain rfl := Option.some.inj h
    exact hE 54 _ dX10_ranked_54
  · replace h := it_t c_4 h
    refine g_aload_n C dX10_ranked_45 1 rfl rfl ?_
    refine g_iconst (v := (1 : Int32)) C dX10_ranked_46 (by decide) ?_
    obtain ⟨r_3, m_3, hk_3, h⟩ := b2_some h
    refine g_vI (As := [.int (1 : Int32)]) (a := 95) (ci := 10) C dX10_ranked_47 mf_X10_fails k_517 rfl (by decide) ⟨by decide, by decide⟩ rfl rfl (Nat.le_of_ble_eq_true rfl) (by decide) rfl (c_X10_fails N (gl Γ) C.2.2.2.2 (gw Γ) (1 : Int32) m _ hk_3) ?_
    refine g_goto (tgt := 54) C dX10_ranked_50 (by decide) ?_
    obtain rfl := Option.some.inj h
    exact hE 54 _ dX10_ranked_54
set_option maxRecDepth 100000 in
set_option maxHeartbeats 4000000 in
theorem t_X10_ranked_19 (N : Nat) (Γ : Gc) (C : Cx Γ cX10_ranked 4 RX10 (rmK 8 185 0)) (b : Int32 × Mem) (hE : EIn Γ 4 cX10_ranked b) (v1 : Int32) (v2 : Int32) (s0 : Int32) (m : Mem) (h : B_X10_ranked_19 N v1 v2 s0 m = some b) : G Γ 4 0 m 19 [(0, .ref (oa (gw Γ) 95)), (1, .int v1), (2, .int v2)] [.int s0, .ref (oa (gw Γ) 95)] := by
  unfold B_X10_ranked_19 at h
  obtain ⟨m_1, e_1, h⟩ := wr_some h
  refine g_putI (ci := 10) (j := 0) C dX10_ranked_19 rfl (by decide) rfl inT_X10 (by decide) k_505 tyX10 tyX10_ok nmX10 rfl rfl rfl rfl rfl (G_m e_1 ?_)
  refine g_aload_n C dX10_ranked_22 0 rfl rfl ?_
  refine g_getI (ci := 10) (j := 0) C dX10_ranked_23 rfl (by decide) rfl inT_X10 (by decide) k_505 rfl rfl ?_
  refine g_if_le (tgt := 33) C dX10_ranked_26 (by decide) (fun c_5 => ?_) (fun c_5 => ?_)
  · replace h := it_t c_5 h
    refine g_aload_n C dX10_ranked_33 0 rfl rfl ?_
    refine g_iload_n C dX10_ranked_34 1 rfl rfl ?_
    refine g_iload_n C dX10_ranked_35 2 rfl rfl ?_
    obtain ⟨r_2, m_2, hk_2, h⟩ := b2_some h
    refine g_vI (As := [.int v1, .int v2]) (a := 95) (ci := 10) C dX10_ranked_36 mf_X10_rankedIn k_739 rfl (by decide) ⟨by decide, by decide⟩ rfl rfl (Nat.le_of_ble_eq_true rfl) (by decide) rfl (c_X10_rankedIn N (gl Γ) C.2.2.2.2 (gw Γ) v1 v2 m_1 _ hk_2) ?_
    refine g_sub [0] rfl ?_
    exact t_X10_ranked_39 N Γ C b hE r_2 m_2 h
  · replace h := it_f c_5 h
    refine g_iconst (v := (0 : Int32)) C dX10_ranked_29 (by decide) ?_
    refine g_goto (tgt := 39) C dX10_ranked_30 (by decide) ?_
    refine g_sub [0] rfl ?_
    exact t_X10_ranked_39 N Γ C b hE (0 : Int32) m_1 h
set_option maxRecDepth 100000 in
set_option maxHeartbeats 4000000 in
theorem t_X10_ranked_18 (N : Nat) (Γ : Gc) (C : Cx Γ cX10_ranked 4 RX10 (rmK 8 185 0)) (b : Int32 × Mem) (hE : EIn Γ 4 cX10_ranked b) (v1 : Int32) (v2 : Int32) (m : Mem) (h : B_X10_ranked_18 N v1 v2 m = some b) : G Γ 4 0 m 18 [(0, .ref (oa (gw Γ) 95)), (1, .int v1), (2, .int v2)] [.ref (oa (gw Γ) 95)] := by
  unfold B_X10_ranked_18 at h
  refine g_iconst (v := (0 : Int32)) C dX10_ranked_18 (by decide) ?_
  refine g_sub [0, 1, 2] rfl ?_
  exact t_X10_ranked_19 N Γ C b hE v1 v2 (0 : Int32) m h
set_option maxRecDepth 100000 in
set_option maxHeartbeats 4000000 in
theorem t_X10_ranked (N : Nat) (Γ : Gc) (C : Cx Γ cX10_ranked 4 RX10 (rmK 8 185 0)) (v1 : Int32) (v2 : Int32) (m : Mem) (b : Int32 × Mem) (h : f_X10_ranked N v1 v2 m = some b) (hE : EIn Γ 4 cX10_ranked b) : G Γ 4 0 m 0 [(0, .ref (oa (gw Γ) 95)), (1, .int v1), (2, .int v2)] [] := by
  unfold f_X10_ranked at h
  refine g_aload_n C dX10_ranked_0 0 rfl rfl ?_
  refine g_iload_n C dX10_ranked_1 1 rfl rfl ?_
  refine g_iconst (v := (-1 : Int32)) C dX10_ranked_2 (by decide) ?_
  refine g_icmp_eq (tgt := 18) C dX10_ranked_3 (by decide) (fun c_8 => ?_) (fun c_8 => ?_)
  · replace h := it_t c_8 h
    refine g_sub [0, 1, 2] rfl ?_
    exact t_X10_ranked_18 N Γ C b hE v1 v2 m h
  · replace h := it_f c_8 h
    refine g_aload_n C dX10_ranked_6 0 rfl rfl ?_
    refine g_iload_n C dX10_ranked_7 1 rfl rfl ?_
    obtain ⟨r_6, m_6, hk_6, h⟩ := b2_some h
    refine g_vI (As := [.int v1]) (a := 95) (ci := 10) C dX10_ranked_8 mf_X10_isPanel k_660 rfl (by decide) ⟨by decide, by decide⟩ rfl rfl (Nat.le_of_ble_eq_true rfl) (by decide) rfl (c_X10_isPanel N (gl Γ) C.2.2.2.2 (gw Γ) v1 m _ hk_6) ?_
    refine g_if_ne (tgt := 18) C dX10_ranked_11 (by decide) (fun c_7 => ?_) (fun c_7 => ?_)
    · replace h := it_f c_7 h
      refine g_sub [0, 1, 2] rfl ?_
      exact t_X10_ranked_18 N Γ C b hE v1 v2 m_6 h
    · replace h := it_t c_7 h
      refine g_iconst (v := (1 : Int32)) C dX10_ranked_14 (by decide) ?_
      refine g_goto (tgt := 19) C dX10_ranked_15 (by decide) ?_
      refine g_sub [0, 1, 2] rfl ?_
      exact t_X10_ranked_19 N Γ C b hE v1 v2 (1 : Int32) m_6 h
theorem c_X10_ranked (N : Nat) (l : Launch) (hst : l.stackTraces = false) (w : Om) (v1 : Int32) (v2 : Int32) (m : Mem) (o : Int32 × Mem) (h : f_X10_ranked N v1 v2 m = some o) : KI l yX10_ranked cX10_ranked 4 (some .int) 8 185 w [.ref (oa w 95), .int v1, .int v2] m o.1 o.2 := KI_of hst (by decide +kernel) RX10 rfl (Nat.le_of_ble_eq_true rfl) (fun Γ hw hl C hE => by
  subst hw; subst hl
  exact t_X10_ranked N Γ C v1 v2 m o h hE)
set_option maxRecDepth 100000 in
set_option maxHeartbeats 4000000 in
theorem t_X10_tieRound_51 (N : Nat) (Γ : Gc) (C : Cx Γ cX10_tieRound 3 RX10 (rmK 6 136 0)) (b : Int32 × Mem) (hE : EIn Γ 3 cX10_tieRound b) (v1 : Int32) (v2 : Int32) (s0 : Int32) (m : Mem) (h : B_X10_tieRound_51 N v1 v2 s0 m = some b) : G Γ 3 0 m 51 [(0, .ref (oa (gw Γ) 95)), (1, .int v1), (2, .int v2)] [.int s0, .ref (oa (gw Γ) 95)] := by
  unfold B_X10_tieRound_51 at h
  obtain ⟨m_2, e_2, h⟩ := wr_some h
  refine g_putI (ci := 10) (j := 0) C dX10_tieRound_51 rfl (by decide) rfl inT_X10 (by decide) k_505 tyX10 tyX10_ok nmX10 rfl rfl rfl rfl rfl (G_m e_2 ?_)
  refine g_aload_n C dX10_tieRound_54 0 rfl rfl ?_
  refine g_getI (ci := 10) (j := 0) C dX10_tieRound_55 rfl (by decide) rfl inT_X10 (by decide) k_505 rfl rfl ?_
  refine g_if_le (tgt := 65) C dX10_tieRound_58 (by decide) (fun c_4 => ?_) (fun c_4 => ?_)
  · replace h := it_t c_4 h
    refine g_aload_n C dX10_tieRound_65 0 rfl rfl ?_
    refine g_iload_n C dX10_tieRound_66 1 rfl rfl ?_
    refine g_iload_n C dX10_tieRound_67 2 rfl rfl ?_
    obtain ⟨r_3, m_3, hk_3, h⟩ := b2_some h
    refine g_vI (As := [.int v1, .int v2]) (a := 95) (ci := 10) C dX10_tieRound_68 mf_X10_roundOf k_727 rfl (by decide) ⟨by decide, by decide⟩ rfl rfl (Nat.le_of_ble_eq_true rfl) (by decide) rfl (c_X10_roundOf N (gl Γ) C.2.2.2.2 (gw Γ) v1 v2 m_2 _ hk_3) ?_
    obtain rfl := Option.some.inj h
    exact hE 71 _ dX10_tieRound_71
  · replace h := it_f c_4 h
    refine g_iconst (v := (0 : Int32)) C dX10_tieRound_61 (by decide) ?_
    refine g_goto (tgt := 71) C dX10_tieRound_62 (by decide) ?_
    obtain rfl := Option.some.inj h
    exact hE 71 _ dX10_tieRound_71
set_option maxRecDepth 100000 in
set_option maxHeartbeats 4000000 in
theorem t_X10_tieRound_17 (N : Nat) (Γ : Gc) (C : Cx Γ cX10_tieRound 3 RX10 (rmK 6 136 0)) (b : Int32 × Mem) (hE : EIn Γ 3 cX10_tieRound b) (v1 : Int32) (v2 : Int32) (m : Mem) (h : B_X10_tieRound_17 N v1 v2 m = some b) : G Γ 3 0 m 17 [(0, .ref (oa (gw Γ) 95)), (1, .int v1), (2, .int v2)] [.ref (oa (gw Γ) 95)] := by
  unfold B_X10_tieRound_17 at h
  refine g_iconst (v := (1 : Int32)) C dX10_tieRound_17 (by decide) ?_
  refine g_goto (tgt := 51) C dX10_tieRound_18 (by decide) ?_
  refine g_sub [0, 1, 2] rfl ?_
  exact t_X10_tieRound_51 N Γ C b hE v1 v2 (1 : Int32) m h
set_option maxRecDepth 100000 in
set_option maxHeartbeats 4000000 in
theorem t_X10_tieRound_50 (N : Nat) (Γ : Gc) (C : Cx Γ cX10_tieRound 3 RX10 (rmK 6 136 0)) (b : Int32 × Mem) (hE : EIn Γ 3 cX10_tieRound b) (v1 : Int32) (v2 : Int32) (m : Mem) (h : B_X10_tieRound_50 N v1 v2 m = some b) : G Γ 3 0 m 50 [(0, .ref (oa (gw Γ) 95)), (1, .int v1), (2, .int v2)] [.ref (oa (gw Γ) 95)] := by
  unfold B_X10_tieRound_50 at h
  refine g_iconst (v := (3 : Int32)) C dX10_tieRound_50 (by decide) ?_
  refine g_sub [0, 1, 2] rfl ?_
  exact t_X10_tieRound_51 N Γ C b hE v1 v2 (3 : Int32) m h
set_option maxRecDepth 100000 in
set_option maxHeartbeats 4000000 in
theorem t_X10_tieRound (N : Nat) (Γ : Gc) (C : Cx Γ cX10_tieRound 3 RX10 (rmK 6 136 0)) (v1 : Int32) (v2 : Int32) (m : Mem) (b : Int32 × Mem) (h : f_X10_tieRound N v1 v2 m = some b) (hE : EIn Γ 3 cX10_tieRound b) : G Γ 3 0 m 0 [(0, .ref (oa (gw Γ) 95)), (1, .int v1), (2, .int v2)] [] := by
  unfold f_X10_tieRound at h
  refine g_aload_n C dX10_tieRound_0 0 rfl rfl ?_
  refine g_aload_n C dX10_tieRound_1 0 rfl rfl ?_
  refine g_iload_n C dX10_tieRound_2 1 rfl rfl ?_
  obtain ⟨r_1, m_1, hk_1, h⟩ := b2_some h
  refine g_vI (As := [.int v1]) (a := 95) (ci := 10) C dX10_tieRound_3 mf_X10_isProposal k_629 rfl (by decide) ⟨by decide, by decide⟩ rfl rfl (Nat.le_of_ble_eq_true rfl) (by decide) rfl (c_X10_isProposal N (gl Γ) C.2.2.2.2 (gw Γ) v1 m _ hk_1) ?_
  refine g_if_eq (tgt := 17) C dX10_tieRound_6 (by decide) (fun c_12 => ?_) (fun c_12 => ?_)
  · replace h := it_t c_12 h
    refine g_sub [0, 1, 2] rfl ?_
    exact t_X10_tieRound_17 N Γ C b hE v1 v2 m_1 h
  · replace h := it_f c_12 h
    refine g_aload_n C dX10_tieRound_9 0 rfl rfl ?_
    refine g_iload_n C dX10_tieRound_10 2 rfl rfl ?_
    obtain ⟨r_5, m_5, hk_5, h⟩ := b2_some h
    refine g_vI (As := [.int v2]) (a := 95) (ci := 10) C dX10_tieRound_11 mf_X10_isProposal k_629 rfl (by decide) ⟨by decide, by decide⟩ rfl rfl (Nat.le_of_ble_eq_true rfl) (by decide) rfl (c_X10_isProposal N (gl Γ) C.2.2.2.2 (gw Γ) v2 m_1 _ hk_5) ?_
    refine g_if_ne (tgt := 21) C dX10_tieRound_14 (by decide) (fun c_11 => ?_) (fun c_11 => ?_)
    · replace h := it_f c_11 h
      refine g_iload_n C dX10_tieRound_21 1 rfl rfl ?_
      refine g_iload_n C dX10_tieRound_22 2 rfl rfl ?_
      refine g_icmp_ne (tgt := 30) C dX10_tieRound_23 (by decide) (fun c_10 => ?_) (fun c_10 => ?_)
      · replace h := it_f c_10 h
        refine g_aload_n C dX10_tieRound_30 0 rfl rfl ?_
        refine g_iload_n C dX10_tieRound_31 1 rfl rfl ?_
        obtain ⟨r_6, m_6, hk_6, h⟩ := b2_some h
        refine g_vI (As := [.int v1]) (a := 95) (ci := 10) C dX10_tieRound_32 mf_X10_isRanked k_731 rfl (by decide) ⟨by decide, by decide⟩ rfl rfl (Nat.le_of_ble_eq_true rfl) (by decide) rfl (c_X10_isRanked N (gl Γ) C.2.2.2.2 (gw Γ) v1 m_5 _ hk_6) ?_
        refine g_if_eq (tgt := 50) C dX10_tieRound_35 (by decide) (fun c_9 => ?_) (fun c_9 => ?_)
        · replace h := it_t c_9 h
          refine g_sub [0, 1, 2] rfl ?_
          exact t_X10_tieRound_50 N Γ C b hE v1 v2 m_6 h
        · replace h := it_f c_9 h
          refine g_aload_n C dX10_tieRound_38 0 rfl rfl ?_
          refine g_iload_n C dX10_tieRound_39 2 rfl rfl ?_
          obtain ⟨r_7, m_7, hk_7, h⟩ := b2_some h
          refine g_vI (As := [.int v2]) (a := 95) (ci := 10) C dX10_tieRound_40 mf_X10_isRanked k_731 rfl (by decide) ⟨by decide, by decide⟩ rfl rfl (Nat.le_of_ble_eq_true rfl) (by decide) rfl (c_X10_isRanked N (gl Γ) C.2.2.2.2 (gw Γ) v2 m_6 _ hk_7) ?_
          refine g_if_eq (tgt := 50) C dX10_tieRound_43 (by decide) (fun c_8 => ?_) (fun c_8 => ?_)
          · replace h := it_t c_8 h
            refine g_sub [0, 1, 2] rfl ?_
            exact t_X10_tieRound_50 N Γ C b hE v1 v2 m_7 h
          · replace h := it_f c_8 h
            refine g_iconst (v := (0 : Int32)) C dX10_tieRound_46 (by decide) ?_
            refine g_goto (tgt := 51) C dX10_tieRound_47 (by decide) ?_
            refine g_sub [0, 1, 2] rfl ?_
            exact t_X10_tieRound_51 N Γ C b hE v1 v2 (0 : Int32) m_7 h
      · replace h := it_t c_10 h
        refine g_iconst (v := (2 : Int32)) C dX10_tieRound_26 (by decide) ?_
        refine g_goto (tgt := 51) C dX10_tieRound_27 (by decide) ?_
        refine g_sub [0, 1, 2] rfl ?_
        exact t_X10_tieRound_51 N Γ C b hE v1 v2 (2 : Int32) m_5 h
    · replace h := it_t c_11 h
      refine g_sub [0, 1, 2] rfl ?_
      exact t_X10_tieRound_17 N Γ C b hE v1 v2 m_5 h
theorem c_X10_tieRound (N : Nat) (l : Launch) (hst : l.stackTraces = false) (w : Om) (v1 : Int32) (v2 : Int32) (m : Mem) (o : Int32 × Mem) (h : f_X10_tieRound N v1 v2 m = some o) : KI l yX10_tieRound cX10_tieRound 3 (some .int) 6 136 w [.ref (oa w 95), .int v1, .int v2] m o.1 o.2 := KI_of hst (by decide +kernel) RX10 rfl (Nat.le_of_ble_eq_true rfl) (fun Γ hw hl C hE => by
  subst hw; subst hl
  exact t_X10_tieRound N Γ C v1 v2 m o h hE)
def Ex_X10_laysOrder_7 (Γ : Gc) (cs : Nat) (b : Mem) : Prop := (∀  (m' : Mem), b = m' → G Γ 2 cs m' 68 [(0, .ref (oa (gw Γ) 95))] [])
set_option maxRecDepth 100000 in
set_option maxHeartbeats 4000000 in
theorem t_X10_laysOrder_58 (N : Nat) (Γ : Gc) (C : Cx Γ cX10_laysOrder 2 RX10 (rmK 7 161 0)) (rc : Int32 → Mem → Option (Mem)) (b : Mem) (hE : Ex_X10_laysOrder_7 Γ 0 b) (hrec : ∀ (v1 : Int32) (m : Mem) (b : Mem), rc v1 m = some b → Ex_X10_laysOrder_7 Γ 0 b → G Γ 2 0 m 7 [(0, .ref (oa (gw Γ) 95)), (1, .int v1)] []) (v1 : Int32) (s0 : Int32) (s1 : Int32) (m : Mem) (h : B_X10_laysOrder_58 N rc v1 s0 s1 m = some b) : G Γ 2 0 m 58 [(0, .ref (oa (gw Γ) 95)), (1, .int v1)] [.int s0, .int s1, .ref (oa (gw Γ) 95)] := by
  unfold B_X10_laysOrder_58 at h
  refine g_iadd C dX10_laysOrder_58 ?_
  obtain ⟨m_6, e_6, h⟩ := wr_some h
  refine g_putI (ci := 10) (j := 19) C dX10_laysOrder_59 rfl (by decide) rfl inT_X10 (by decide) k_743 tyX10 tyX10_ok nmX10 rfl rfl rfl rfl rfl (G_m e_6 ?_)
  refine g_iinc (q := 1) (v := v1 + (1 : Int32)) (lv' := [(1, .int (v1 + (1 : Int32))), (0, .ref (oa (gw Γ) 95))]) C dX10_laysOrder_62 rfl rfl (by decide) rfl ?_
  refine g_goto (tgt := 7) C dX10_laysOrder_65 (by decide) ?_
  refine g_sub [1, 0] rfl ?_
  exact hrec (v1 + (1 : Int32)) m_6 b h hE
set_option maxRecDepth 100000 in
set_option maxHeartbeats 4000000 in
theorem t_X10_laysOrder_39 (N : Nat) (Γ : Gc) (C : Cx Γ cX10_laysOrder 2 RX10 (rmK 7 161 0)) (rc : Int32 → Mem → Option (Mem)) (b : Mem) (hE : Ex_X10_laysOrder_7 Γ 0 b) (hrec : ∀ (v1 : Int32) (m : Mem) (b : Mem), rc v1 m = some b → Ex_X10_laysOrder_7 Γ 0 b → G Γ 2 0 m 7 [(0, .ref (oa (gw Γ) 95)), (1, .int v1)] []) (v1 : Int32) (s0 : Int32) (s1 : Int32) (m : Mem) (h : B_X10_laysOrder_39 N rc v1 s0 s1 m = some b) : G Γ 2 0 m 39 [(0, .ref (oa (gw Γ) 95)), (1, .int v1)] [.int s0, .int s1, .ref (oa (gw Γ) 105)] := by
  unfold B_X10_laysOrder_39 at h
  obtain ⟨g_3, h⟩ := gd_some h
  obtain ⟨m_4, e_4, h⟩ := wr_some h
  refine g_iast C dX10_laysOrder_39 (okA_of rfl rfl g_3) (G_m e_4 ?_)
  refine g_aload_n C dX10_laysOrder_40 0 rfl rfl ?_
  refine g_dup C dX10_laysOrder_41 rfl ?_
  refine g_getI (ci := 10) (j := 19) C dX10_laysOrder_42 rfl (by decide) rfl inT_X10 (by decide) k_743 rfl rfl ?_
  refine g_aload_n C dX10_laysOrder_45 0 rfl rfl ?_
  refine g_iload_n C dX10_laysOrder_46 1 rfl rfl ?_
  obtain ⟨r_5, m_5, hk_5, h⟩ := b2_some h
  refine g_vI (As := [.int v1]) (a := 95) (ci := 10) C dX10_laysOrder_47 mf_X10_isRanked k_731 rfl (by decide) ⟨by decide, by decide⟩ rfl rfl (Nat.le_of_ble_eq_true rfl) (by decide) rfl (c_X10_isRanked N (gl Γ) C.2.2.2.2 (gw Γ) v1 m_4 _ hk_5) ?_
  refine g_if_eq (tgt := 57) C dX10_laysOrder_50 (by decide) (fun c_7 => ?_) (fun c_7 => ?_)
  · replace h := it_t c_7 h
    refine g_iconst (v := (0 : Int32)) C dX10_laysOrder_57 (by decide) ?_
    refine g_sub [0, 1] rfl ?_
    exact t_X10_laysOrder_58 N Γ C rc b hE hrec v1 (0 : Int32) (gI m_4 95 19) m_5 h
  · replace h := it_f c_7 h
    refine g_iconst (v := (1 : Int32)) C dX10_laysOrder_53 (by decide) ?_
    refine g_goto (tgt := 58) C dX10_laysOrder_54 (by decide) ?_
    refine g_sub [0, 1] rfl ?_
    exact t_X10_laysOrder_58 N Γ C rc b hE hrec v1 (1 : Int32) (gI m_4 95 19) m_5 h
set_option maxRecDepth 100000 in
set_option maxHeartbeats 4000000 in
theorem t_X10_laysOrder_7 (N : Nat) (Γ : Gc) (C : Cx Γ cX10_laysOrder 2 RX10 (rmK 7 161 0)) (rc : Int32 → Mem → Option (Mem)) (b : Mem) (hE : Ex_X10_laysOrder_7 Γ 0 b) (hrec : ∀ (v1 : Int32) (m : Mem) (b : Mem), rc v1 m = some b → Ex_X10_laysOrder_7 Γ 0 b → G Γ 2 0 m 7 [(0, .ref (oa (gw Γ) 95)), (1, .int v1)] []) (v1 : Int32) (m : Mem) (h : T_X10_laysOrder_7 N rc v1 m = some b) : G Γ 2 0 m 7 [(0, .ref (oa (gw Γ) 95)), (1, .int v1)] [] := by
  unfold T_X10_laysOrder_7 at h
  refine g_iload_n C dX10_laysOrder_7 1 rfl rfl ?_
  refine g_aload_n C dX10_laysOrder_8 0 rfl rfl ?_
  refine g_getT (b := 96) (ci := 10) (j := 1) C dX10_laysOrder_9 rfl (by decide) rfl inT_X10 (by decide) k_506 rfl rfl rfl rfl ?_
  refine g_iconst (v := (2 : Int32)) C dX10_laysOrder_12 (by decide) ?_
  refine g_iald' (j := 2) C dX10_laysOrder_13 (okA_of rfl rfl (by decide)) (by decide) ?_
  refine g_icmp_ge (tgt := 68) C dX10_laysOrder_14 (by decide) (fun c_10 => ?_) (fun c_10 => ?_)
  · replace h := it_t c_10 h
    obtain rfl := Option.some.inj h
    refine g_sub [0] rfl ?_
    exact hE _ rfl
  · replace h := it_f c_10 h
    refine g_aload_n C dX10_laysOrder_17 0 rfl rfl ?_
    refine g_getT (b := 105) (ci := 10) (j := 18) C dX10_laysOrder_18 rfl (by decide) rfl inT_X10 (by decide) k_744 rfl rfl rfl rfl ?_
    refine g_iload_n C dX10_laysOrder_21 1 rfl rfl ?_
    refine g_aload_n C dX10_laysOrder_22 0 rfl rfl ?_
    refine g_iload_n C dX10_laysOrder_23 1 rfl rfl ?_
    obtain ⟨r_2, m_2, hk_2, h⟩ := b2_some h
    refine g_vI (As := [.int v1]) (a := 95) (ci := 10) C dX10_laysOrder_24 mf_X10_isRanked k_731 rfl (by decide) ⟨by decide, by decide⟩ rfl rfl (Nat.le_of_ble_eq_true rfl) (by decide) rfl (c_X10_isRanked N (gl Γ) C.2.2.2.2 (gw Γ) v1 m _ hk_2) ?_
    refine g_if_eq (tgt := 38) C dX10_laysOrder_27 (by decide) (fun c_9 => ?_) (fun c_9 => ?_)
    · replace h := it_t c_9 h
      refine g_iconst (v := (0 : Int32)) C dX10_laysOrder_38 (by decide) ?_
      refine g_sub [0, 1] rfl ?_
      exact t_X10_laysOrder_39 N Γ C rc b hE hrec v1 (0 : Int32) v1 m_2 h
    · replace h := it_f c_9 h
      refine g_aload_n C dX10_laysOrder_30 0 rfl rfl ?_
      refine g_iload_n C dX10_laysOrder_31 1 rfl rfl ?_
      obtain ⟨r_8, m_8, hk_8, h⟩ := b2_some h
      refine g_vI (As := [.int v1]) (a := 95) (ci := 10) C dX10_laysOrder_32 mf_X10_normal k_711 rfl (by decide) ⟨by decide, by decide⟩ rfl rfl (Nat.le_of_ble_eq_true rfl) (by decide) rfl (c_X10_normal N (gl Γ) C.2.2.2.2 (gw Γ) v1 m_2 _ hk_8) ?_
      refine g_goto (tgt := 39) C dX10_laysOrder_35 (by decide) ?_
      refine g_sub [0, 1] rfl ?_
      exact t_X10_laysOrder_39 N Γ C rc b hE hrec v1 r_8 v1 m_8 h
theorem lt_X10_laysOrder_7 (N : Nat) (Γ : Gc) (C : Cx Γ cX10_laysOrder 2 RX10 (rmK 7 161 0)) : ∀ (n : Nat) (v1 : Int32) (m : Mem) (b : Mem), L_X10_laysOrder_7 N n v1 m = some b → Ex_X10_laysOrder_7 Γ 0 b → G Γ 2 0 m 7 [(0, .ref (oa (gw Γ) 95)), (1, .int v1)] [] := by
  intro n
  induction n with
  | zero =>
    intro v1 m b h
    have h9 : (none : Option (Mem)) = some b := h
    cases h9
  | succ n ih => intro v1 m b h hE; exact t_X10_laysOrder_7 N Γ C (L_X10_laysOrder_7 N n) b hE ih v1 m h
def Ex_X10_laysOrder_70 (Γ : Gc) (cs : Nat) (b : Mem) : Prop := (∀  (m' : Mem), b = m' → G Γ 2 cs m' 106 [] [])
set_option maxRecDepth 100000 in
set_option maxHeartbeats 4000000 in
theorem t_X10_laysOrder_70 (N : Nat) (Γ : Gc) (C : Cx Γ cX10_laysOrder 2 RX10 (rmK 7 161 0)) (rc : Int32 → Mem → Option (Mem)) (b : Mem) (hE : Ex_X10_laysOrder_70 Γ 0 b) (hrec : ∀ (v1 : Int32) (m : Mem) (b : Mem), rc v1 m = some b → Ex_X10_laysOrder_70 Γ 0 b → G Γ 2 0 m 70 [(0, .ref (oa (gw Γ) 95)), (1, .int v1)] []) (v1 : Int32) (m : Mem) (h : T_X10_laysOrder_70 N rc v1 m = some b) : G Γ 2 0 m 70 [(0, .ref (oa (gw Γ) 95)), (1, .int v1)] [] := by
  unfold T_X10_laysOrder_70 at h
  refine g_iload_n C dX10_laysOrder_70 1 rfl rfl ?_
  refine g_aload_n C dX10_laysOrder_71 0 rfl rfl ?_
  refine g_getT (b := 96) (ci := 10) (j := 1) C dX10_laysOrder_72 rfl (by decide) rfl inT_X10 (by decide) k_506 rfl rfl rfl rfl ?_
  refine g_iconst (v := (2 : Int32)) C dX10_laysOrder_75 (by decide) ?_
  refine g_iald' (j := 2) C dX10_laysOrder_76 (okA_of rfl rfl (by decide)) (by decide) ?_
  refine g_icmp_ge (tgt := 106) C dX10_laysOrder_77 (by decide) (fun c_17 => ?_) (fun c_17 => ?_)
  · replace h := it_t c_17 h
    obtain rfl := Option.some.inj h
    refine g_sub [] rfl ?_
    exact hE _ rfl
  · replace h := it_f c_17 h
    refine g_aload_n C dX10_laysOrder_80 0 rfl rfl ?_
    refine g_iload_n C dX10_laysOrder_81 1 rfl rfl ?_
    obtain ⟨r_12, m_12, hk_12, h⟩ := b2_some h
    refine g_vI (As := [.int v1]) (a := 95) (ci := 10) C dX10_laysOrder_82 mf_X10_isRanked k_731 rfl (by decide) ⟨by decide, by decide⟩ rfl rfl (Nat.le_of_ble_eq_true rfl) (by decide) rfl (c_X10_isRanked N (gl Γ) C.2.2.2.2 (gw Γ) v1 m _ hk_12) ?_
    refine g_if_eq (tgt := 100) C dX10_laysOrder_85 (by decide) (fun c_16 => ?_) (fun c_16 => ?_)
    · replace h := it_t c_16 h
      refine g_iinc (q := 1) (v := v1 + (1 : Int32)) (lv' := [(1, .int (v1 + (1 : Int32))), (0, .ref (oa (gw Γ) 95))]) C dX10_laysOrder_100 rfl rfl (by decide) rfl ?_
      refine g_goto (tgt := 70) C dX10_laysOrder_103 (by decide) ?_
      refine g_sub [1, 0] rfl ?_
      exact hrec (v1 + (1 : Int32)) m_12 b h hE
    · replace h := it_f c_16 h
      refine g_aload_n C dX10_laysOrder_88 0 rfl rfl ?_
      refine g_getT (b := 104) (ci := 10) (j := 17) C dX10_laysOrder_89 rfl (by decide) rfl inT_X10 (by decide) k_745 rfl rfl rfl rfl ?_
      refine g_aload_n C dX10_laysOrder_92 0 rfl rfl ?_
      refine g_iconst (v := (-1 : Int32)) C dX10_laysOrder_93 (by decide) ?_
      refine g_iload_n C dX10_laysOrder_94 1 rfl rfl ?_
      obtain ⟨r_13, m_13, hk_13, h⟩ := b2_some h
      refine g_vI (As := [.int (-1 : Int32), .int v1]) (a := 95) (ci := 10) C dX10_laysOrder_95 mf_X10_rankIn k_735 rfl (by decide) ⟨by decide, by decide⟩ rfl rfl (Nat.le_of_ble_eq_true rfl) (by decide) rfl (c_X10_rankIn N (gl Γ) C.2.2.2.2 (gw Γ) (-1 : Int32) v1 m_12 _ hk_13) ?_
      refine g_iload_n C dX10_laysOrder_98 1 rfl rfl ?_
      obtain ⟨g_14, h⟩ := gd_some h
      obtain ⟨m_15, e_15, h⟩ := wr_some h
      refine g_iast C dX10_laysOrder_99 (okA_of rfl rfl g_14) (G_m e_15 ?_)
      refine g_iinc (q := 1) (v := v1 + (1 : Int32)) (lv' := [(1, .int (v1 + (1 : Int32))), (0, .ref (oa (gw Γ) 95))]) C dX10_laysOrder_100 rfl rfl (by decide) rfl ?_
      refine g_goto (tgt := 70) C dX10_laysOrder_103 (by decide) ?_
      refine g_sub [1, 0] rfl ?_
      exact hrec (v1 + (1 : Int32)) m_15 b h hE
theorem lt_X10_laysOrder_70 (N : Nat) (Γ : Gc) (C : Cx Γ cX10_laysOrder 2 RX10 (rmK 7 161 0)) : ∀ (n : Nat) (v1 : Int32) (m : Mem) (b : Mem), L_X10_laysOrder_70 N n v1 m = some b → Ex_X10_laysOrder_70 Γ 0 b → G Γ 2 0 m 70 [(0, .ref (oa (gw Γ) 95)), (1, .int v1)] [] := by
  intro n
  induction n with
  | zero =>
    intro v1 m b h
    have h9 : (none : Option (Mem)) = some b := h
    cases h9
  | succ n ih => intro v1 m b h hE; exact t_X10_laysOrder_70 N Γ C (L_X10_laysOrder_70 N n) b hE ih v1 m h
set_option maxRecDepth 100000 in
set_option maxHeartbeats 4000000 in
theorem t_X10_laysOrder (N : Nat) (Γ : Gc) (C : Cx Γ cX10_laysOrder 2 RX10 (rmK 7 161 0))  (m : Mem) (b : Mem) (h : f_X10_laysOrder N  m = some b) (hE : EVn Γ 2 cX10_laysOrder b) : G Γ 2 0 m 0 [(0, .ref (oa (gw Γ) 95))] [] := by
  unfold f_X10_laysOrder at h
  refine g_aload_n C dX10_laysOrder_0 0 rfl rfl ?_
  refine g_iconst (v := (0 : Int32)) C dX10_laysOrder_1 (by decide) ?_
  obtain ⟨m_1, e_1, h⟩ := wr_some h
  refine g_putI (ci := 10) (j := 19) C dX10_laysOrder_2 rfl (by decide) rfl inT_X10 (by decide) k_743 tyX10 tyX10_ok nmX10 rfl rfl rfl rfl rfl (G_m e_1 ?_)
  refine g_iconst (v := (0 : Int32)) C dX10_laysOrder_5 (by decide) ?_
  refine g_istore_n (lv' := [(1, .int (0 : Int32)), (0, .ref (oa (gw Γ) 95))]) C dX10_laysOrder_6 rfl (by decide) rfl ?_
  obtain ⟨m_11, hx, h⟩ := l1_some h
  refine g_sub [1, 0] rfl ?_
  refine lt_X10_laysOrder_7 N Γ C N (0 : Int32) m_1 _ hx ?_
  intro  m9 e9
  cases e9
  refine g_iconst (v := (0 : Int32)) C dX10_laysOrder_68 (by decide) ?_
  refine g_istore_n (lv' := [(1, .int (0 : Int32)), (0, .ref (oa (gw Γ) 95))]) C dX10_laysOrder_69 rfl (by decide) rfl ?_
  obtain ⟨m_18, hx, h⟩ := l1_some h
  refine g_sub [1, 0] rfl ?_
  refine lt_X10_laysOrder_70 N Γ C N (0 : Int32) m_11 _ hx ?_
  intro  m9 e9
  cases e9
  obtain rfl := Option.some.inj h
  exact hE 106 _ dX10_laysOrder_106
theorem c_X10_laysOrder (N : Nat) (l : Launch) (hst : l.stackTraces = false) (w : Om)  (m : Mem) (o : Mem) (h : f_X10_laysOrder N  m = some o) : KV l yX10_laysOrder cX10_laysOrder 2 none 7 161 w [.ref (oa w 95)] m o := KV_of hst (by decide +kernel) RX10 rfl (Nat.le_of_ble_eq_true rfl) (fun Γ hw hl C hE => by
  subst hw; subst hl
  exact t_X10_laysOrder N Γ C  m o h hE)
def Ex_X10_funds_17 (Γ : Gc) (cs : Nat) (b : Int32 × Int32 × Mem) : Prop := (∀ (y2 : Int32) (y4 : Int32) (m' : Mem), b = (y2, y4, m') → G Γ 10 cs m' 181 [(0, .ref (oa (gw Γ) 95)), (2, .int y2), (4, .int y4)] [])
set_option maxRecDepth 100000 in
set_option maxHeartbeats 4000000 in
theorem t_X10_funds_173 (N : Nat) (Γ : Gc) (C : Cx Γ cX10_funds 10 RX10 (rmK 1 22 0)) (rc : Int32 → Int32 → Int32 → Int32 → Int32 → Int32 → Mem → Option (Int32 × Int32 × Mem)) (b : Int32 × Int32 × Mem) (hE : Ex_X10_funds_17 Γ 0 b) (hrec : ∀ (v1 : Int32) (v2 : Int32) (v3 : Int32) (v4 : Int32) (v5 : Int32) (v6 : Int32) (m : Mem) (b : Int32 × Int32 × Mem), rc v1 v2 v3 v4 v5 v6 m = some b → Ex_X10_funds_17 Γ 0 b → G Γ 10 0 m 17 [(0, .ref (oa (gw Γ) 95)), (1, .int v1), (2, .int v2), (3, .int v3), (4, .int v4), (5, .int v5), (6, .int v6)] []) (v1 : Int32) (v2 : Int32) (v3 : Int32) (v4 : Int32) (v6 : Int32) (s0 : Int32) (m : Mem) (h : B_X10_funds_173 N rc v1 v2 v3 v4 v6 s0 m = some b) : G Γ 10 0 m 173 [(0, .ref (oa (gw Γ) 95)), (1, .int v1), (2, .int v2), (3, .int v3), (4, .int v4), (6, .int v6)] [.int s0] := by
  unfold B_X10_funds_173 at h
  refine g_istore (lv' := [(5, .int s0), (0, .ref (oa (gw Γ) 95)), (1, .int v1), (2, .int v2), (3, .int v3), (4, .int v4), (6, .int v6)]) C dX10_funds_173 (by decide) rfl ?_
  refine g_iinc (q := 6) (v := v6 + (1 : Int32)) (lv' := [(6, .int (v6 + (1 : Int32))), (5, .int s0), (0, .ref (oa (gw Γ) 95)), (1, .int v1), (2, .int v2), (3, .int v3), (4, .int v4)]) C dX10_funds_175 rfl rfl (by decide) rfl ?_
  refine g_goto (tgt := 17) C dX10_funds_178 (by decide) ?_
  refine g_sub [2, 3, 4, 5, 6, 1, 0] rfl ?_
  exact hrec v1 v2 v3 v4 s0 (v6 + (1 : Int32)) m b h hE
set_option maxRecDepth 100000 in
set_option maxHeartbeats 4000000 in
theorem t_X10_funds_172 (N : Nat) (Γ : Gc) (C : Cx Γ cX10_funds 10 RX10 (rmK 1 22 0)) (rc : Int32 → Int32 → Int32 → Int32 → Int32 → Int32 → Mem → Option (Int32 × Int32 × Mem)) (b : Int32 × Int32 × Mem) (hE : Ex_X10_funds_17 Γ 0 b) (hrec : ∀ (v1 : Int32) (v2 : Int32) (v3 : Int32) (v4 : Int32) (v5 : Int32) (v6 : Int32) (m : Mem) (b : Int32 × Int32 × Mem), rc v1 v2 v3 v4 v5 v6 m = some b → Ex_X10_funds_17 Γ 0 b → G Γ 10 0 m 17 [(0, .ref (oa (gw Γ) 95)), (1, .int v1), (2, .int v2), (3, .int v3), (4, .int v4), (5, .int v5), (6, .int v6)] []) (v1 : Int32) (v2 : Int32) (v3 : Int32) (v4 : Int32) (v6 : Int32) (m : Mem) (h : B_X10_funds_172 N rc v1 v2 v3 v4 v6 m = some b) : G Γ 10 0 m 172 [(0, .ref (oa (gw Γ) 95)), (1, .int v1), (2, .int v2), (3, .int v3), (4, .int v4), (6, .int v6)] [] := by
  unfold B_X10_funds_172 at h
  refine g_iconst (v := (0 : Int32)) C dX10_funds_172 (by decide) ?_
  refine g_sub [0, 1, 2, 3, 4, 5] rfl ?_
  exact t_X10_funds_173 N Γ C rc b hE hrec v1 v2 v3 v4 v6 (0 : Int32) m h
set_option maxRecDepth 100000 in
set_option maxHeartbeats 4000000 in
theorem t_X10_funds_145 (N : Nat) (Γ : Gc) (C : Cx Γ cX10_funds 10 RX10 (rmK 1 22 0)) (rc : Int32 → Int32 → Int32 → Int32 → Int32 → Int32 → Mem → Option (Int32 × Int32 × Mem)) (b : Int32 × Int32 × Mem) (hE : Ex_X10_funds_17 Γ 0 b) (hrec : ∀ (v1 : Int32) (v2 : Int32) (v3 : Int32) (v4 : Int32) (v5 : Int32) (v6 : Int32) (m : Mem) (b : Int32 × Int32 × Mem), rc v1 v2 v3 v4 v5 v6 m = some b → Ex_X10_funds_17 Γ 0 b → G Γ 10 0 m 17 [(0, .ref (oa (gw Γ) 95)), (1, .int v1), (2, .int v2), (3, .int v3), (4, .int v4), (5, .int v5), (6, .int v6)] []) (v1 : Int32) (v2 : Int32) (v3 : Int32) (v4 : Int32) (v6 : Int32) (v7 : Int32) (v8 : Int32) (s0 : Int32) (s1 : Int32) (m : Mem) (h : B_X10_funds_145 N rc v1 v2 v3 v4 v6 v7 v8 s0 s1 m = some b) : G Γ 10 0 m 145 [(0, .ref (oa (gw Γ) 95)), (1, .int v1), (2, .int v2), (3, .int v3), (4, .int v4), (6, .int v6), (7, .int v7), (8, .int v8)] [.int s0, .int s1, .ref (oa (gw Γ) 106)] := by
  unfold B_X10_funds_145 at h
  obtain ⟨g_6, h⟩ := gd_some h
  obtain ⟨m_7, e_7, h⟩ := wr_some h
  refine g_iast C dX10_funds_145 (okA_of rfl rfl g_6) (G_m e_7 ?_)
  refine g_iload C dX10_funds_146 4 rfl ?_
  refine g_aload_n C dX10_funds_148 0 rfl rfl ?_
  refine g_getT (b := 106) (ci := 10) (j := 20) C dX10_funds_149 rfl (by decide) rfl inT_X10 (by decide) k_746 rfl rfl rfl rfl ?_
  refine g_iload C dX10_funds_152 6 rfl ?_
  obtain ⟨g_8, h⟩ := gd_some h
  refine g_iald C dX10_funds_154 (okA_of rfl rfl g_8) ?_
  refine g_isub C dX10_funds_155 ?_
  refine g_istore (lv' := [(4, .int (v4 - (gI m_7 106 v7.toNatClampNeg))), (0, .ref (oa (gw Γ) 95)), (1, .int v1), (2, .int v2), (3, .int v3), (6, .int v6), (7, .int v7), (8, .int v8)]) C dX10_funds_156 (by decide) rfl ?_
  refine g_iload C dX10_funds_158 7 rfl ?_
  refine g_if_ne (tgt := 172) C dX10_funds_160 (by decide) (fun c_10 => ?_) (fun c_10 => ?_)
  · replace h := it_f c_10 h
    refine g_sub [1, 2, 3, 4, 0, 5] rfl ?_
    exact t_X10_funds_172 N Γ C rc b hE hrec v1 v2 v3 (v4 - (gI m_7 106 v7.toNatClampNeg)) v6 m_7 h
  · replace h := it_t c_10 h
    refine g_iload_n C dX10_funds_163 2 rfl rfl ?_
    refine g_iconst (v := (1 : Int32)) C dX10_funds_164 (by decide) ?_
    refine g_icmp_eq (tgt := 172) C dX10_funds_165 (by decide) (fun c_9 => ?_) (fun c_9 => ?_)
    · replace h := it_t c_9 h
      refine g_sub [1, 2, 3, 4, 0, 5] rfl ?_
      exact t_X10_funds_172 N Γ C rc b hE hrec v1 v2 v3 (v4 - (gI m_7 106 v7.toNatClampNeg)) v6 m_7 h
    · replace h := it_f c_9 h
      refine g_iconst (v := (1 : Int32)) C dX10_funds_168 (by decide) ?_
      refine g_goto (tgt := 173) C dX10_funds_169 (by decide) ?_
      refine g_sub [1, 2, 3, 4, 0, 5] rfl ?_
      exact t_X10_funds_173 N Γ C rc b hE hrec v1 v2 v3 (v4 - (gI m_7 106 v7.toNatClampNeg)) v6 (1 : Int32) m_7 h
set_option maxRecDepth 100000 in
set_option maxHeartbeats 4000000 in
theorem t_X10_funds_111 (N : Nat) (Γ : Gc) (C : Cx Γ cX10_funds 10 RX10 (rmK 1 22 0)) (rc : Int32 → Int32 → Int32 → Int32 → Int32 → Int32 → Mem → Option (Int32 × Int32 × Mem)) (b : Int32 × Int32 × Mem) (hE : Ex_X10_funds_17 Γ 0 b) (hrec : ∀ (v1 : Int32) (v2 : Int32) (v3 : Int32) (v4 : Int32) (v5 : Int32) (v6 : Int32) (m : Mem) (b : Int32 × Int32 × Mem), rc v1 v2 v3 v4 v5 v6 m = some b → Ex_X10_funds_17 Γ 0 b → G Γ 10 0 m 17 [(0, .ref (oa (gw Γ) 95)), (1, .int v1), (2, .int v2), (3, .int v3), (4, .int v4), (5, .int v5), (6, .int v6)] []) (v1 : Int32) (v2 : Int32) (v3 : Int32) (v4 : Int32) (v6 : Int32) (v7 : Int32) (v8 : Int32) (s0 : Int32) (m : Mem) (h : B_X10_funds_111 N rc v1 v2 v3 v4 v6 v7 v8 s0 m = some b) : G Γ 10 0 m 111 [(0, .ref (oa (gw Γ) 95)), (1, .int v1), (2, .int v2), (3, .int v3), (4, .int v4), (6, .int v6), (7, .int v7), (8, .int v8)] [.int s0] := by
  unfold B_X10_funds_111 at h
  refine g_istore (lv' := [(9, .int s0), (0, .ref (oa (gw Γ) 95)), (1, .int v1), (2, .int v2), (3, .int v3), (4, .int v4), (6, .int v6), (7, .int v7), (8, .int v8)]) C dX10_funds_111 (by decide) rfl ?_
  refine g_aload_n C dX10_funds_113 1 rfl rfl ?_
  refine g_getT (b := 106) (ci := 10) (j := 20) C dX10_funds_114 rfl (by decide) rfl inT_X10 (by decide) k_746 rfl rfl rfl rfl ?_
  refine g_iload C dX10_funds_117 7 rfl ?_
  refine g_iload C dX10_funds_119 8 rfl ?_
  refine g_if_eq (tgt := 134) C dX10_funds_121 (by decide) (fun c_13 => ?_) (fun c_13 => ?_)
  · replace h := it_t c_13 h
    refine g_iload C dX10_funds_134 0 rfl ?_
    refine g_if_eq (tgt := 144) C dX10_funds_136 (by decide) (fun c_11 => ?_) (fun c_11 => ?_)
    · replace h := it_t c_11 h
      refine g_iconst (v := (0 : Int32)) C dX10_funds_144 (by decide) ?_
      refine g_sub [1, 2, 3, 4, 5, 6, 7, 8] rfl ?_
      exact t_X10_funds_145 N Γ C rc b hE hrec v1 v2 v3 v4 v6 v7 v8 (0 : Int32) v7 m h
    · replace h := it_f c_11 h
      refine g_iload C dX10_funds_139 5 rfl ?_
      refine g_goto (tgt := 145) C dX10_funds_141 (by decide) ?_
      refine g_sub [1, 2, 3, 4, 5, 6, 7, 8] rfl ?_
      exact t_X10_funds_145 N Γ C rc b hE hrec v1 v2 v3 v4 v6 v7 v8 v4 v7 m h
  · replace h := it_f c_13 h
    refine g_aload_n C dX10_funds_124 1 rfl rfl ?_
    refine g_iload C dX10_funds_125 7 rfl ?_
    refine g_iconst (v := (3 : Int32)) C dX10_funds_127 (by decide) ?_
    obtain ⟨r_12, m_12, hk_12, h⟩ := b2_some h
    refine g_vI (As := [.int v7, .int (3 : Int32)]) (a := 95) (ci := 10) C dX10_funds_128 mf_X10_proposal k_609 rfl (by decide) ⟨by decide, by decide⟩ rfl rfl (Nat.le_of_ble_eq_true rfl) (by decide) rfl (c_X10_proposal N (gl Γ) C.2.2.2.2 (gw Γ) v7 (3 : Int32) m _ hk_12) ?_
    refine g_goto (tgt := 145) C dX10_funds_131 (by decide) ?_
    refine g_sub [1, 2, 3, 4, 5, 6, 7, 8] rfl ?_
    exact t_X10_funds_145 N Γ C rc b hE hrec v1 v2 v3 v4 v6 v7 v8 r_12 v7 m_12 h
set_option maxRecDepth 100000 in
set_option maxHeartbeats 4000000 in
theorem t_X10_funds_110 (N : Nat) (Γ : Gc) (C : Cx Γ cX10_funds 10 RX10 (rmK 1 22 0)) (rc : Int32 → Int32 → Int32 → Int32 → Int32 → Int32 → Mem → Option (Int32 × Int32 × Mem)) (b : Int32 × Int32 × Mem) (hE : Ex_X10_funds_17 Γ 0 b) (hrec : ∀ (v1 : Int32) (v2 : Int32) (v3 : Int32) (v4 : Int32) (v5 : Int32) (v6 : Int32) (m : Mem) (b : Int32 × Int32 × Mem), rc v1 v2 v3 v4 v5 v6 m = some b → Ex_X10_funds_17 Γ 0 b → G Γ 10 0 m 17 [(0, .ref (oa (gw Γ) 95)), (1, .int v1), (2, .int v2), (3, .int v3), (4, .int v4), (5, .int v5), (6, .int v6)] []) (v1 : Int32) (v2 : Int32) (v3 : Int32) (v4 : Int32) (v6 : Int32) (v7 : Int32) (v8 : Int32) (m : Mem) (h : B_X10_funds_110 N rc v1 v2 v3 v4 v6 v7 v8 m = some b) : G Γ 10 0 m 110 [(0, .ref (oa (gw Γ) 95)), (1, .int v1), (2, .int v2), (3, .int v3), (4, .int v4), (6, .int v6), (7, .int v7), (8, .int v8)] [] := by
  unfold B_X10_funds_110 at h
  refine g_iconst (v := (0 : Int32)) C dX10_funds_110 (by decide) ?_
  refine g_sub [0, 1, 2, 3, 4, 5, 6, 7] rfl ?_
  exact t_X10_funds_111 N Γ C rc b hE hrec v1 v2 v3 v4 v6 v7 v8 (0 : Int32) m h
set_option maxRecDepth 100000 in
set_option maxHeartbeats 4000000 in
theorem t_X10_funds_82 (N : Nat) (Γ : Gc) (C : Cx Γ cX10_funds 10 RX10 (rmK 1 22 0)) (rc : Int32 → Int32 → Int32 → Int32 → Int32 → Int32 → Mem → Option (Int32 × Int32 × Mem)) (b : Int32 × Int32 × Mem) (hE : Ex_X10_funds_17 Γ 0 b) (hrec : ∀ (v1 : Int32) (v2 : Int32) (v3 : Int32) (v4 : Int32) (v5 : Int32) (v6 : Int32) (m : Mem) (b : Int32 × Int32 × Mem), rc v1 v2 v3 v4 v5 v6 m = some b → Ex_X10_funds_17 Γ 0 b → G Γ 10 0 m 17 [(0, .ref (oa (gw Γ) 95)), (1, .int v1), (2, .int v2), (3, .int v3), (4, .int v4), (5, .int v5), (6, .int v6)] []) (v1 : Int32) (v2 : Int32) (v3 : Int32) (v4 : Int32) (v6 : Int32) (v7 : Int32) (s0 : Int32) (m : Mem) (h : B_X10_funds_82 N rc v1 v2 v3 v4 v6 v7 s0 m = some b) : G Γ 10 0 m 82 [(0, .ref (oa (gw Γ) 95)), (1, .int v1), (2, .int v2), (3, .int v3), (4, .int v4), (6, .int v6), (7, .int v7)] [.int s0] := by
  unfold B_X10_funds_82 at h
  refine g_istore (lv' := [(8, .int s0), (0, .ref (oa (gw Γ) 95)), (1, .int v1), (2, .int v2), (3, .int v3), (4, .int v4), (6, .int v6), (7, .int v7)]) C dX10_funds_82 (by decide) rfl ?_
  refine g_iload C dX10_funds_84 0 rfl ?_
  refine g_if_ne (tgt := 110) C dX10_funds_86 (by decide) (fun c_17 => ?_) (fun c_17 => ?_)
  · replace h := it_f c_17 h
    refine g_sub [1, 2, 3, 4, 5, 6, 7, 0] rfl ?_
    exact t_X10_funds_110 N Γ C rc b hE hrec v1 v2 v3 v4 v6 v7 s0 m h
  · replace h := it_t c_17 h
    refine g_iload_n C dX10_funds_89 2 rfl rfl ?_
    refine g_iconst (v := (2 : Int32)) C dX10_funds_90 (by decide) ?_
    refine g_icmp_ne (tgt := 110) C dX10_funds_91 (by decide) (fun c_16 => ?_) (fun c_16 => ?_)
    · replace h := it_f c_16 h
      refine g_sub [1, 2, 3, 4, 5, 6, 7, 0] rfl ?_
      exact t_X10_funds_110 N Γ C rc b hE hrec v1 v2 v3 v4 v6 v7 s0 m h
    · replace h := it_t c_16 h
      refine g_iload C dX10_funds_94 5 rfl ?_
      refine g_aload_n C dX10_funds_96 1 rfl rfl ?_
      refine g_iload C dX10_funds_97 7 rfl ?_
      refine g_iconst (v := (4 : Int32)) C dX10_funds_99 (by decide) ?_
      obtain ⟨r_14, m_14, hk_14, h⟩ := b2_some h
      refine g_vI (As := [.int v7, .int (4 : Int32)]) (a := 95) (ci := 10) C dX10_funds_100 mf_X10_proposal k_609 rfl (by decide) ⟨by decide, by decide⟩ rfl rfl (Nat.le_of_ble_eq_true rfl) (by decide) rfl (c_X10_proposal N (gl Γ) C.2.2.2.2 (gw Γ) v7 (4 : Int32) m _ hk_14) ?_
      refine g_icmp_lt (tgt := 110) C dX10_funds_103 (by decide) (fun c_15 => ?_) (fun c_15 => ?_)
      · replace h := it_t c_15 h
        refine g_sub [1, 2, 3, 4, 5, 6, 7, 0] rfl ?_
        exact t_X10_funds_110 N Γ C rc b hE hrec v1 v2 v3 v4 v6 v7 s0 m_14 h
      · replace h := it_f c_15 h
        refine g_iconst (v := (1 : Int32)) C dX10_funds_106 (by decide) ?_
        refine g_goto (tgt := 111) C dX10_funds_107 (by decide) ?_
        refine g_sub [1, 2, 3, 4, 5, 6, 7, 0] rfl ?_
        exact t_X10_funds_111 N Γ C rc b hE hrec v1 v2 v3 v4 v6 v7 s0 (1 : Int32) m_14 h
set_option maxRecDepth 100000 in
set_option maxHeartbeats 4000000 in
theorem t_X10_funds_17 (N : Nat) (Γ : Gc) (C : Cx Γ cX10_funds 10 RX10 (rmK 1 22 0)) (rc : Int32 → Int32 → Int32 → Int32 → Int32 → Int32 → Mem → Option (Int32 × Int32 × Mem)) (b : Int32 × Int32 × Mem) (hE : Ex_X10_funds_17 Γ 0 b) (hrec : ∀ (v1 : Int32) (v2 : Int32) (v3 : Int32) (v4 : Int32) (v5 : Int32) (v6 : Int32) (m : Mem) (b : Int32 × Int32 × Mem), rc v1 v2 v3 v4 v5 v6 m = some b → Ex_X10_funds_17 Γ 0 b → G Γ 10 0 m 17 [(0, .ref (oa (gw Γ) 95)), (1, .int v1), (2, .int v2), (3, .int v3), (4, .int v4), (5, .int v5), (6, .int v6)] []) (v1 : Int32) (v2 : Int32) (v3 : Int32) (v4 : Int32) (v5 : Int32) (v6 : Int32) (m : Mem) (h : T_X10_funds_17 N rc v1 v2 v3 v4 v5 v6 m = some b) : G Γ 10 0 m 17 [(0, .ref (oa (gw Γ) 95)), (1, .int v1), (2, .int v2), (3, .int v3), (4, .int v4), (5, .int v5), (6, .int v6)] [] := by
  unfold T_X10_funds_17 at h
  refine g_iload C dX10_funds_17 6 rfl ?_
  refine g_aload_n C dX10_funds_19 0 rfl rfl ?_
  refine g_getI (ci := 10) (j := 19) C dX10_funds_20 rfl (by decide) rfl inT_X10 (by decide) k_743 rfl rfl ?_
  refine g_icmp_ge (tgt := 181) C dX10_funds_23 (by decide) (fun c_22 => ?_) (fun c_22 => ?_)
  · replace h := it_t c_22 h
    obtain rfl := Option.some.inj h
    refine g_sub [0, 2, 4] rfl ?_
    exact hE _ _ _ rfl
  · replace h := it_f c_22 h
    refine g_iload C dX10_funds_26 5 rfl ?_
    refine g_if_ne (tgt := 181) C dX10_funds_28 (by decide) (fun c_21 => ?_) (fun c_21 => ?_)
    · replace h := it_f c_21 h
      obtain rfl := Option.some.inj h
      refine g_sub [0, 2, 4] rfl ?_
      exact hE _ _ _ rfl
    · replace h := it_t c_21 h
      refine g_aload_n C dX10_funds_31 0 rfl rfl ?_
      refine g_getT (b := 104) (ci := 10) (j := 17) C dX10_funds_32 rfl (by decide) rfl inT_X10 (by decide) k_745 rfl rfl rfl rfl ?_
      refine g_iload C dX10_funds_35 6 rfl ?_
      obtain ⟨g_2, h⟩ := gd_some h
      refine g_iald C dX10_funds_37 (okA_of rfl rfl g_2) ?_
      refine g_istore (lv' := [(7, .int (gI m 104 v6.toNatClampNeg)), (0, .ref (oa (gw Γ) 95)), (1, .int v1), (2, .int v2), (3, .int v3), (4, .int v4), (5, .int v5), (6, .int v6)]) C dX10_funds_38 (by decide) rfl ?_
      refine g_aload_n C dX10_funds_40 1 rfl rfl ?_
      refine g_iload C dX10_funds_41 0 rfl ?_
      refine g_iconst (v := (0 : Int32)) C dX10_funds_43 (by decide) ?_
      obtain ⟨r_3, m_3, hk_3, h⟩ := b2_some h
      refine g_vI (As := [.int (gI m 104 v6.toNatClampNeg), .int (0 : Int32)]) (a := 95) (ci := 10) C dX10_funds_44 mf_X10_proposal k_609 rfl (by decide) ⟨by decide, by decide⟩ rfl rfl (Nat.le_of_ble_eq_true rfl) (by decide) rfl (c_X10_proposal N (gl Γ) C.2.2.2.2 (gw Γ) (gI m 104 v6.toNatClampNeg) (0 : Int32) m _ hk_3) ?_
      refine g_iload_n C dX10_funds_47 3 rfl rfl ?_
      refine g_icmp_ne (tgt := 175) C dX10_funds_48 (by decide) (fun c_20 => ?_) (fun c_20 => ?_)
      · replace h := it_f c_20 h
        refine g_iinc (q := 7) (v := v6 + (1 : Int32)) (lv' := [(6, .int (v6 + (1 : Int32))), (7, .int (gI m 104 v6.toNatClampNeg)), (0, .ref (oa (gw Γ) 95)), (1, .int v1), (2, .int v2), (3, .int v3), (4, .int v4), (5, .int v5)]) C dX10_funds_175 rfl rfl (by decide) rfl ?_
        refine g_goto (tgt := 17) C dX10_funds_178 (by decide) ?_
        refine g_sub [2, 3, 4, 5, 6, 7, 0] rfl ?_
        exact hrec v1 v2 v3 v4 v5 (v6 + (1 : Int32)) m_3 b h hE
      · replace h := it_t c_20 h
        refine g_aload_n C dX10_funds_51 1 rfl rfl ?_
        refine g_getT (b := 105) (ci := 10) (j := 18) C dX10_funds_52 rfl (by decide) rfl inT_X10 (by decide) k_744 rfl rfl rfl rfl ?_
        refine g_iload C dX10_funds_55 0 rfl ?_
        obtain ⟨g_4, h⟩ := gd_some h
        refine g_iald C dX10_funds_57 (okA_of rfl rfl g_4) ?_
        refine g_iload_n C dX10_funds_58 4 rfl rfl ?_
        refine g_icmp_ge (tgt := 65) C dX10_funds_59 (by decide) (fun c_19 => ?_) (fun c_19 => ?_)
        · replace h := it_t c_19 h
          refine g_aload_n C dX10_funds_65 1 rfl rfl ?_
          refine g_iload C dX10_funds_66 0 rfl ?_
          refine g_iconst (v := (3 : Int32)) C dX10_funds_68 (by decide) ?_
          obtain ⟨r_5, m_5, hk_5, h⟩ := b2_some h
          refine g_vI (As := [.int (gI m 104 v6.toNatClampNeg), .int (3 : Int32)]) (a := 95) (ci := 10) C dX10_funds_69 mf_X10_proposal k_609 rfl (by decide) ⟨by decide, by decide⟩ rfl rfl (Nat.le_of_ble_eq_true rfl) (by decide) rfl (c_X10_proposal N (gl Γ) C.2.2.2.2 (gw Γ) (gI m 104 v6.toNatClampNeg) (3 : Int32) m_3 _ hk_5) ?_
          refine g_iload C dX10_funds_72 5 rfl ?_
          refine g_icmp_gt (tgt := 81) C dX10_funds_74 (by decide) (fun c_18 => ?_) (fun c_18 => ?_)
          · replace h := it_t c_18 h
            refine g_iconst (v := (0 : Int32)) C dX10_funds_81 (by decide) ?_
            refine g_sub [1, 2, 3, 4, 5, 7, 0] rfl ?_
            exact t_X10_funds_82 N Γ C rc b hE hrec v1 v2 v3 v4 v6 (gI m 104 v6.toNatClampNeg) (0 : Int32) m_5 h
          · replace h := it_f c_18 h
            refine g_iconst (v := (1 : Int32)) C dX10_funds_77 (by decide) ?_
            refine g_goto (tgt := 82) C dX10_funds_78 (by decide) ?_
            refine g_sub [1, 2, 3, 4, 5, 7, 0] rfl ?_
            exact t_X10_funds_82 N Γ C rc b hE hrec v1 v2 v3 v4 v6 (gI m 104 v6.toNatClampNeg) (1 : Int32) m_5 h
        · replace h := it_f c_19 h
          refine g_goto (tgt := 175) C dX10_funds_62 (by decide) ?_
          refine g_iinc (q := 7) (v := v6 + (1 : Int32)) (lv' := [(6, .int (v6 + (1 : Int32))), (7, .int (gI m 104 v6.toNatClampNeg)), (0, .ref (oa (gw Γ) 95)), (1, .int v1), (2, .int v2), (3, .int v3), (4, .int v4), (5, .int v5)]) C dX10_funds_175 rfl rfl (by decide) rfl ?_
          refine g_goto (tgt := 17) C dX10_funds_178 (by decide) ?_
          refine g_sub [2, 3, 4, 5, 6, 7, 0] rfl ?_
          exact hrec v1 v2 v3 v4 v5 (v6 + (1 : Int32)) m_3 b h hE
theorem lt_X10_funds_17 (N : Nat) (Γ : Gc) (C : Cx Γ cX10_funds 10 RX10 (rmK 1 22 0)) : ∀ (n : Nat) (v1 : Int32) (v2 : Int32) (v3 : Int32) (v4 : Int32) (v5 : Int32) (v6 : Int32) (m : Mem) (b : Int32 × Int32 × Mem), L_X10_funds_17 N n v1 v2 v3 v4 v5 v6 m = some b → Ex_X10_funds_17 Γ 0 b → G Γ 10 0 m 17 [(0, .ref (oa (gw Γ) 95)), (1, .int v1), (2, .int v2), (3, .int v3), (4, .int v4), (5, .int v5), (6, .int v6)] [] := by
  intro n
  induction n with
  | zero =>
    intro v1 v2 v3 v4 v5 v6 m b h
    have h9 : (none : Option (Int32 × Int32 × Mem)) = some b := h
    cases h9
  | succ n ih => intro v1 v2 v3 v4 v5 v6 m b h hE; exact t_X10_funds_17 N Γ C (L_X10_funds_17 N n) b hE ih v1 v2 v3 v4 v5 v6 m h
set_option maxRecDepth 100000 in
set_option maxHeartbeats 4000000 in
theorem t_X10_funds_181 (N : Nat) (Γ : Gc) (C : Cx Γ cX10_funds 10 RX10 (rmK 1 22 0)) (b : Mem) (hE : EVn Γ 10 cX10_funds b) (v2 : Int32) (v4 : Int32) (m : Mem) (h : B_X10_funds_181 N v2 v4 m = some b) : G Γ 10 0 m 181 [(0, .ref (oa (gw Γ) 95)), (2, .int v2), (4, .int v4)] [] := by
  unfold B_X10_funds_181 at h
  refine g_aload_n C dX10_funds_181 0 rfl rfl ?_
  refine g_getT (b := 107) (ci := 10) (j := 21) C dX10_funds_182 rfl (by decide) rfl inT_X10 (by decide) k_747 rfl rfl rfl rfl ?_
  refine g_iload_n C dX10_funds_185 1 rfl rfl ?_
  refine g_iload C dX10_funds_186 2 rfl ?_
  obtain ⟨g_24, h⟩ := gd_some h
  obtain ⟨m_25, e_25, h⟩ := wr_some h
  refine g_iast C dX10_funds_188 (okA_of rfl rfl g_24) (G_m e_25 ?_)
  obtain rfl := Option.some.inj h
  exact hE 189 _ dX10_funds_189
set_option maxRecDepth 100000 in
set_option maxHeartbeats 4000000 in
theorem t_X10_funds (N : Nat) (Γ : Gc) (C : Cx Γ cX10_funds 10 RX10 (rmK 1 22 0)) (v1 : Int32) (v2 : Int32) (v3 : Int32) (m : Mem) (b : Mem) (h : f_X10_funds N v1 v2 v3 m = some b) (hE : EVn Γ 10 cX10_funds b) : G Γ 10 0 m 0 [(0, .ref (oa (gw Γ) 95)), (1, .int v1), (2, .int v2), (3, .int v3)] [] := by
  unfold f_X10_funds at h
  refine g_aload_n C dX10_funds_0 0 rfl rfl ?_
  refine g_getT (b := 96) (ci := 10) (j := 1) C dX10_funds_1 rfl (by decide) rfl inT_X10 (by decide) k_506 rfl rfl rfl rfl ?_
  refine g_bipush (v := (7 : Int32)) C dX10_funds_4 (by decide) ?_
  refine g_iload_n C dX10_funds_6 2 rfl rfl ?_
  refine g_iadd C dX10_funds_7 ?_
  obtain ⟨g_1, h⟩ := gd_some h
  refine g_iald C dX10_funds_8 (okA_of rfl rfl g_1) ?_
  refine g_istore (lv' := [(4, .int (gI m 96 ((7 : Int32) + v2).toNatClampNeg)), (0, .ref (oa (gw Γ) 95)), (1, .int v1), (2, .int v2), (3, .int v3)]) C dX10_funds_9 (by decide) rfl ?_
  refine g_iconst (v := (0 : Int32)) C dX10_funds_11 (by decide) ?_
  refine g_istore (lv' := [(5, .int (0 : Int32)), (4, .int (gI m 96 ((7 : Int32) + v2).toNatClampNeg)), (0, .ref (oa (gw Γ) 95)), (1, .int v1), (2, .int v2), (3, .int v3)]) C dX10_funds_12 (by decide) rfl ?_
  refine g_iconst (v := (0 : Int32)) C dX10_funds_14 (by decide) ?_
  refine g_istore (lv' := [(6, .int (0 : Int32)), (5, .int (0 : Int32)), (4, .int (gI m 96 ((7 : Int32) + v2).toNatClampNeg)), (0, .ref (oa (gw Γ) 95)), (1, .int v1), (2, .int v2), (3, .int v3)]) C dX10_funds_15 (by decide) rfl ?_
  obtain ⟨v2_23, v4_23, m_23, hx, h⟩ := l3_some h
  refine g_sub [3, 4, 5, 6, 2, 1, 0] rfl ?_
  refine lt_X10_funds_17 N Γ C N v1 v2 v3 (gI m 96 ((7 : Int32) + v2).toNatClampNeg) (0 : Int32) (0 : Int32) m _ hx ?_
  intro z2 z4 m9 e9
  cases e9
  refine g_sub [0, 1, 2] rfl ?_
  exact t_X10_funds_181 N Γ C b hE v2_23 v4_23 m_23 h
theorem c_X10_funds (N : Nat) (l : Launch) (hst : l.stackTraces = false) (w : Om) (v1 : Int32) (v2 : Int32) (v3 : Int32) (m : Mem) (o : Mem) (h : f_X10_funds N v1 v2 v3 m = some o) : KV l yX10_funds cX10_funds 10 none 1 22 w [.ref (oa w 95), .int v1, .int v2, .int v3] m o := KV_of hst (by decide +kernel) RX10 rfl (Nat.le_of_ble_eq_true rfl) (fun Γ hw hl C hE => by
  subst hw; subst hl
  exact t_X10_funds N Γ C v1 v2 v3 m o h hE)
def Ex_X10_fundsAll_2 (Γ : Gc) (cs : Nat) (b : Int32 × Int32 × Mem) : Prop := (∀ (y1 : Int32) (y2 : Int32) (m' : Mem), b = (y1, y2, m') → G Γ 5 cs m' 21 [(0, .ref (oa (gw Γ) 95)), (1, .int y1), (2, .int y2)] [])
set_option maxRecDepth 100000 in
set_option maxHeartbeats 4000000 in
theorem t_X10_fundsAll_2 (N : Nat) (Γ : Gc) (C : Cx Γ cX10_fundsAll 5 RX10 (rmK 2 51 0)) (rc : Int32 → Int32 → Int32 → Mem → Option (Int32 × Int32 × Mem)) (b : Int32 × Int32 × Mem) (hE : Ex_X10_fundsAll_2 Γ 0 b) (hrec : ∀ (v1 : Int32) (v2 : Int32) (v3 : Int32) (m : Mem) (b : Int32 × Int32 × Mem), rc v1 v2 v3 m = some b → Ex_X10_fundsAll_2 Γ 0 b → G Γ 5 0 m 2 [(0, .ref (oa (gw Γ) 95)), (1, .int v1), (2, .int v2), (3, .int v3)] []) (v1 : Int32) (v2 : Int32) (v3 : Int32) (m : Mem) (h : T_X10_fundsAll_2 N rc v1 v2 v3 m = some b) : G Γ 5 0 m 2 [(0, .ref (oa (gw Γ) 95)), (1, .int v1), (2, .int v2), (3, .int v3)] [] := by
  unfold T_X10_fundsAll_2 at h
  refine g_iload_n C dX10_fundsAll_2 3 rfl rfl ?_
  refine g_bipush (v := (16 : Int32)) C dX10_fundsAll_3 (by decide) ?_
  refine g_icmp_ge (tgt := 21) C dX10_fundsAll_5 (by decide) (fun c_3 => ?_) (fun c_3 => ?_)
  · replace h := it_t c_3 h
    obtain rfl := Option.some.inj h
    refine g_sub [0, 1, 2] rfl ?_
    exact hE _ _ _ rfl
  · replace h := it_f c_3 h
    refine g_aload_n C dX10_fundsAll_8 0 rfl rfl ?_
    refine g_getT (b := 106) (ci := 10) (j := 20) C dX10_fundsAll_9 rfl (by decide) rfl inT_X10 (by decide) k_746 rfl rfl rfl rfl ?_
    refine g_iload_n C dX10_fundsAll_12 3 rfl rfl ?_
    refine g_iconst (v := (0 : Int32)) C dX10_fundsAll_13 (by decide) ?_
    obtain ⟨g_1, h⟩ := gd_some h
    obtain ⟨m_2, e_2, h⟩ := wr_some h
    refine g_iast C dX10_fundsAll_14 (okA_of rfl rfl g_1) (G_m e_2 ?_)
    refine g_iinc (q := 3) (v := v3 + (1 : Int32)) (lv' := [(3, .int (v3 + (1 : Int32))), (0, .ref (oa (gw Γ) 95)), (1, .int v1), (2, .int v2)]) C dX10_fundsAll_15 rfl rfl (by decide) rfl ?_
    refine g_goto (tgt := 2) C dX10_fundsAll_18 (by decide) ?_
    refine g_sub [1, 2, 3, 0] rfl ?_
    exact hrec v1 v2 (v3 + (1 : Int32)) m_2 b h hE
theorem lt_X10_fundsAll_2 (N : Nat) (Γ : Gc) (C : Cx Γ cX10_fundsAll 5 RX10 (rmK 2 51 0)) : ∀ (n : Nat) (v1 : Int32) (v2 : Int32) (v3 : Int32) (m : Mem) (b : Int32 × Int32 × Mem), L_X10_fundsAll_2 N n v1 v2 v3 m = some b → Ex_X10_fundsAll_2 Γ 0 b → G Γ 5 0 m 2 [(0, .ref (oa (gw Γ) 95)), (1, .int v1), (2, .int v2), (3, .int v3)] [] := by
  intro n
  induction n with
  | zero =>
    intro v1 v2 v3 m b h
    have h9 : (none : Option (Int32 × Int32 × Mem)) = some b := h
    cases h9
  | succ n ih => intro v1 v2 v3 m b h hE; exact t_X10_fundsAll_2 N Γ C (L_X10_fundsAll_2 N n) b hE ih v1 v2 v3 m h
def Ex_X10_fundsAll_33 (Γ : Gc) (cs : Nat) (b : Int32 × Mem) : Prop := (∀ (y2 : Int32) (m' : Mem), b = (y2, m') → G Γ 5 cs m' 71 [(0, .ref (oa (gw Γ) 95)), (2, .int y2)] [])
set_option maxRecDepth 100000 in
set_option maxHeartbeats 4000000 in
theorem t_X10_fundsAll_33 (N : Nat) (Γ : Gc) (C : Cx Γ cX10_fundsAll 5 RX10 (rmK 2 51 0)) (rc : Int32 → Int32 → Int32 → Mem → Option (Int32 × Mem)) (b : Int32 × Mem) (hE : Ex_X10_fundsAll_33 Γ 0 b) (hrec : ∀ (v1 : Int32) (v2 : Int32) (v3 : Int32) (m : Mem) (b : Int32 × Mem), rc v1 v2 v3 m = some b → Ex_X10_fundsAll_33 Γ 0 b → G Γ 5 0 m 33 [(0, .ref (oa (gw Γ) 95)), (1, .int v1), (2, .int v2), (3, .int v3)] []) (v1 : Int32) (v2 : Int32) (v3 : Int32) (m : Mem) (h : T_X10_fundsAll_33 N rc v1 v2 v3 m = some b) : G Γ 5 0 m 33 [(0, .ref (oa (gw Γ) 95)), (1, .int v1), (2, .int v2), (3, .int v3)] [] := by
  unfold T_X10_fundsAll_33 at h
  refine g_iload_n C dX10_fundsAll_33 3 rfl rfl ?_
  refine g_aload_n C dX10_fundsAll_34 0 rfl rfl ?_
  refine g_getT (b := 96) (ci := 10) (j := 1) C dX10_fundsAll_35 rfl (by decide) rfl inT_X10 (by decide) k_506 rfl rfl rfl rfl ?_
  refine g_iconst (v := (0 : Int32)) C dX10_fundsAll_38 (by decide) ?_
  refine g_iald' (j := 0) C dX10_fundsAll_39 (okA_of rfl rfl (by decide)) (by decide) ?_
  refine g_icmp_ge (tgt := 71) C dX10_fundsAll_40 (by decide) (fun c_9 => ?_) (fun c_9 => ?_)
  · replace h := it_t c_9 h
    obtain rfl := Option.some.inj h
    refine g_sub [0, 2] rfl ?_
    exact hE _ _ rfl
  · replace h := it_f c_9 h
    refine g_aload_n C dX10_fundsAll_43 0 rfl rfl ?_
    refine g_iload_n C dX10_fundsAll_44 1 rfl rfl ?_
    refine g_iload_n C dX10_fundsAll_45 3 rfl rfl ?_
    refine g_iload_n C dX10_fundsAll_46 2 rfl rfl ?_
    obtain ⟨m_6, hk_6, h⟩ := b1_some h
    refine g_vV (As := [.int v1, .int v3, .int v2]) (a := 95) (ci := 10) C dX10_fundsAll_47 mf_X10_funds k_749 rfl (by decide) ⟨by decide, by decide⟩ rfl rfl (Nat.le_of_ble_eq_true rfl) (by decide) rfl (c_X10_funds N (gl Γ) C.2.2.2.2 (gw Γ) v1 v3 v2 m _ hk_6) ?_
    refine g_aload_n C dX10_fundsAll_50 0 rfl rfl ?_
    refine g_dup C dX10_fundsAll_51 rfl ?_
    refine g_getI (ci := 10) (j := 22) C dX10_fundsAll_52 rfl (by decide) rfl inT_X10 (by decide) k_748 rfl rfl ?_
    refine g_aload_n C dX10_fundsAll_55 0 rfl rfl ?_
    refine g_getT (b := 107) (ci := 10) (j := 21) C dX10_fundsAll_56 rfl (by decide) rfl inT_X10 (by decide) k_747 rfl rfl rfl rfl ?_
    refine g_iload_n C dX10_fundsAll_59 3 rfl rfl ?_
    obtain ⟨g_7, h⟩ := gd_some h
    refine g_iald C dX10_fundsAll_60 (okA_of rfl rfl g_7) ?_
    refine g_iadd C dX10_fundsAll_61 ?_
    obtain ⟨m_8, e_8, h⟩ := wr_some h
    refine g_putI (ci := 10) (j := 22) C dX10_fundsAll_62 rfl (by decide) rfl inT_X10 (by decide) k_748 tyX10 tyX10_ok nmX10 rfl rfl rfl rfl rfl (G_m e_8 ?_)
    refine g_iinc (q := 3) (v := v3 + (1 : Int32)) (lv' := [(3, .int (v3 + (1 : Int32))), (0, .ref (oa (gw Γ) 95)), (1, .int v1), (2, .int v2)]) C dX10_fundsAll_65 rfl rfl (by decide) rfl ?_
    refine g_goto (tgt := 33) C dX10_fundsAll_68 (by decide) ?_
    refine g_sub [1, 2, 3, 0] rfl ?_
    exact hrec v1 v2 (v3 + (1 : Int32)) m_8 b h hE
theorem lt_X10_fundsAll_33 (N : Nat) (Γ : Gc) (C : Cx Γ cX10_fundsAll 5 RX10 (rmK 2 51 0)) : ∀ (n : Nat) (v1 : Int32) (v2 : Int32) (v3 : Int32) (m : Mem) (b : Int32 × Mem), L_X10_fundsAll_33 N n v1 v2 v3 m = some b → Ex_X10_fundsAll_33 Γ 0 b → G Γ 5 0 m 33 [(0, .ref (oa (gw Γ) 95)), (1, .int v1), (2, .int v2), (3, .int v3)] [] := by
  intro n
  induction n with
  | zero =>
    intro v1 v2 v3 m b h
    have h9 : (none : Option (Int32 × Mem)) = some b := h
    cases h9
  | succ n ih => intro v1 v2 v3 m b h hE; exact t_X10_fundsAll_33 N Γ C (L_X10_fundsAll_33 N n) b hE ih v1 v2 v3 m h
def Ex_X10_fundsAll_73 (Γ : Gc) (cs : Nat) (b : Mem) : Prop := (∀  (m' : Mem), b = m' → G Γ 5 cs m' 160 [] [])
set_option maxRecDepth 100000 in
set_option maxHeartbeats 4000000 in
theorem t_X10_fundsAll_73 (N : Nat) (Γ : Gc) (C : Cx Γ cX10_fundsAll 5 RX10 (rmK 2 51 0)) (rc : Int32 → Int32 → Mem → Option (Mem)) (b : Mem) (hE : Ex_X10_fundsAll_73 Γ 0 b) (hrec : ∀ (v2 : Int32) (v3 : Int32) (m : Mem) (b : Mem), rc v2 v3 m = some b → Ex_X10_fundsAll_73 Γ 0 b → G Γ 5 0 m 73 [(0, .ref (oa (gw Γ) 95)), (2, .int v2), (3, .int v3)] []) (v2 : Int32) (v3 : Int32) (m : Mem) (h : T_X10_fundsAll_73 N rc v2 v3 m = some b) : G Γ 5 0 m 73 [(0, .ref (oa (gw Γ) 95)), (2, .int v2), (3, .int v3)] [] := by
  unfold T_X10_fundsAll_73 at h
  refine g_iload_n C dX10_fundsAll_73 2 rfl rfl ?_
  refine g_aload_n C dX10_fundsAll_74 0 rfl rfl ?_
  refine g_getI (ci := 10) (j := 19) C dX10_fundsAll_75 rfl (by decide) rfl inT_X10 (by decide) k_743 rfl rfl ?_
  refine g_icmp_ge (tgt := 160) C dX10_fundsAll_78 (by decide) (fun c_20 => ?_) (fun c_20 => ?_)
  · replace h := it_t c_20 h
    obtain rfl := Option.some.inj h
    refine g_sub [] rfl ?_
    exact hE _ rfl
  · replace h := it_f c_20 h
    refine g_aload_n C dX10_fundsAll_81 0 rfl rfl ?_
    refine g_getT (b := 104) (ci := 10) (j := 17) C dX10_fundsAll_82 rfl (by decide) rfl inT_X10 (by decide) k_745 rfl rfl rfl rfl ?_
    refine g_iload_n C dX10_fundsAll_85 2 rfl rfl ?_
    obtain ⟨g_11, h⟩ := gd_some h
    refine g_iald C dX10_fundsAll_86 (okA_of rfl rfl g_11) ?_
    refine g_istore (lv' := [(4, .int (gI m 104 v3.toNatClampNeg)), (0, .ref (oa (gw Γ) 95)), (2, .int v2), (3, .int v3)]) C dX10_fundsAll_87 (by decide) rfl ?_
    refine g_aload_n C dX10_fundsAll_89 1 rfl rfl ?_
    refine g_getT (b := 106) (ci := 10) (j := 20) C dX10_fundsAll_90 rfl (by decide) rfl inT_X10 (by decide) k_746 rfl rfl rfl rfl ?_
    refine g_iload C dX10_fundsAll_93 0 rfl ?_
    obtain ⟨g_12, h⟩ := gd_some h
    refine g_iald C dX10_fundsAll_95 (okA_of rfl rfl g_12) ?_
    refine g_if_ne (tgt := 154) C dX10_fundsAll_96 (by decide) (fun c_19 => ?_) (fun c_19 => ?_)
    · replace h := it_f c_19 h
      refine g_iinc (q := 3) (v := v3 + (1 : Int32)) (lv' := [(3, .int (v3 + (1 : Int32))), (4, .int (gI m 104 v3.toNatClampNeg)), (0, .ref (oa (gw Γ) 95)), (2, .int v2)]) C dX10_fundsAll_154 rfl rfl (by decide) rfl ?_
      refine g_goto (tgt := 73) C dX10_fundsAll_157 (by decide) ?_
      refine g_sub [2, 3, 0] rfl ?_
      exact hrec v2 (v3 + (1 : Int32)) m b h hE
    · replace h := it_t c_19 h
      refine g_aload_n C dX10_fundsAll_99 1 rfl rfl ?_
      refine g_getT (b := 105) (ci := 10) (j := 18) C dX10_fundsAll_100 rfl (by decide) rfl inT_X10 (by decide) k_744 rfl rfl rfl rfl ?_
      refine g_iload C dX10_fundsAll_103 0 rfl ?_
      refine g_iald C dX10_fundsAll_105 (okA_of rfl rfl g_12) ?_
      refine g_iload_n C dX10_fundsAll_106 2 rfl rfl ?_
      refine g_icmp_lt (tgt := 154) C dX10_fundsAll_107 (by decide) (fun c_18 => ?_) (fun c_18 => ?_)
      · replace h := it_t c_18 h
        refine g_iinc (q := 3) (v := v3 + (1 : Int32)) (lv' := [(3, .int (v3 + (1 : Int32))), (4, .int (gI m 104 v3.toNatClampNeg)), (0, .ref (oa (gw Γ) 95)), (2, .int v2)]) C dX10_fundsAll_154 rfl rfl (by decide) rfl ?_
        refine g_goto (tgt := 73) C dX10_fundsAll_157 (by decide) ?_
        refine g_sub [2, 3, 0] rfl ?_
        exact hrec v2 (v3 + (1 : Int32)) m b h hE
      · replace h := it_f c_18 h
        refine g_aload_n C dX10_fundsAll_110 1 rfl rfl ?_
        refine g_iload C dX10_fundsAll_111 0 rfl ?_
        refine g_iconst (v := (3 : Int32)) C dX10_fundsAll_113 (by decide) ?_
        obtain ⟨r_13, m_13, hk_13, h⟩ := b2_some h
        refine g_vI (As := [.int (gI m 104 v3.toNatClampNeg), .int (3 : Int32)]) (a := 95) (ci := 10) C dX10_fundsAll_114 mf_X10_proposal k_609 rfl (by decide) ⟨by decide, by decide⟩ rfl rfl (Nat.le_of_ble_eq_true rfl) (by decide) rfl (c_X10_proposal N (gl Γ) C.2.2.2.2 (gw Γ) (gI m 104 v3.toNatClampNeg) (3 : Int32) m _ hk_13) ?_
        refine g_aload_n C dX10_fundsAll_117 1 rfl rfl ?_
        refine g_getI (ci := 10) (j := 22) C dX10_fundsAll_118 rfl (by decide) rfl inT_X10 (by decide) k_748 rfl rfl ?_
        refine g_icmp_gt (tgt := 154) C dX10_fundsAll_121 (by decide) (fun c_17 => ?_) (fun c_17 => ?_)
        · replace h := it_t c_17 h
          refine g_iinc (q := 3) (v := v3 + (1 : Int32)) (lv' := [(3, .int (v3 + (1 : Int32))), (4, .int (gI m 104 v3.toNatClampNeg)), (0, .ref (oa (gw Γ) 95)), (2, .int v2)]) C dX10_fundsAll_154 rfl rfl (by decide) rfl ?_
          refine g_goto (tgt := 73) C dX10_fundsAll_157 (by decide) ?_
          refine g_sub [2, 3, 0] rfl ?_
          exact hrec v2 (v3 + (1 : Int32)) m_13 b h hE
        · replace h := it_f c_17 h
          refine g_aload_n C dX10_fundsAll_124 1 rfl rfl ?_
          refine g_getT (b := 106) (ci := 10) (j := 20) C dX10_fundsAll_125 rfl (by decide) rfl inT_X10 (by decide) k_746 rfl rfl rfl rfl ?_
          refine g_iload C dX10_fundsAll_128 0 rfl ?_
          refine g_aload_n C dX10_fundsAll_130 1 rfl rfl ?_
          refine g_iload C dX10_fundsAll_131 0 rfl ?_
          refine g_iconst (v := (3 : Int32)) C dX10_fundsAll_133 (by decide) ?_
          obtain ⟨r_14, m_14, hk_14, h⟩ := b2_some h
          refine g_vI (As := [.int (gI m 104 v3.toNatClampNeg), .int (3 : Int32)]) (a := 95) (ci := 10) C dX10_fundsAll_134 mf_X10_proposal k_609 rfl (by decide) ⟨by decide, by decide⟩ rfl rfl (Nat.le_of_ble_eq_true rfl) (by decide) rfl (c_X10_proposal N (gl Γ) C.2.2.2.2 (gw Γ) (gI m 104 v3.toNatClampNeg) (3 : Int32) m_13 _ hk_14) ?_
          obtain ⟨m_15, e_15, h⟩ := wr_some h
          refine g_iast C dX10_fundsAll_137 (okA_of rfl rfl g_12) (G_m e_15 ?_)
          refine g_aload_n C dX10_fundsAll_138 1 rfl rfl ?_
          refine g_dup C dX10_fundsAll_139 rfl ?_
          refine g_getI (ci := 10) (j := 22) C dX10_fundsAll_140 rfl (by decide) rfl inT_X10 (by decide) k_748 rfl rfl ?_
          refine g_aload_n C dX10_fundsAll_143 1 rfl rfl ?_
          refine g_getT (b := 106) (ci := 10) (j := 20) C dX10_fundsAll_144 rfl (by decide) rfl inT_X10 (by decide) k_746 rfl rfl rfl rfl ?_
          refine g_iload C dX10_fundsAll_147 0 rfl ?_
          refine g_iald C dX10_fundsAll_149 (okA_of rfl rfl g_12) ?_
          refine g_isub C dX10_fundsAll_150 ?_
          obtain ⟨m_16, e_16, h⟩ := wr_some h
          refine g_putI (ci := 10) (j := 22) C dX10_fundsAll_151 rfl (by decide) rfl inT_X10 (by decide) k_748 tyX10 tyX10_ok nmX10 rfl rfl rfl rfl rfl (G_m e_16 ?_)
          refine g_iinc (q := 3) (v := v3 + (1 : Int32)) (lv' := [(3, .int (v3 + (1 : Int32))), (4, .int (gI m 104 v3.toNatClampNeg)), (0, .ref (oa (gw Γ) 95)), (2, .int v2)]) C dX10_fundsAll_154 rfl rfl (by decide) rfl ?_
          refine g_goto (tgt := 73) C dX10_fundsAll_157 (by decide) ?_
          refine g_sub [2, 3, 0] rfl ?_
          exact hrec v2 (v3 + (1 : Int32)) m_16 b h hE
theorem lt_X10_fundsAll_73 (N : Nat) (Γ : Gc) (C : Cx Γ cX10_fundsAll 5 RX10 (rmK 2 51 0)) : ∀ (n : Nat) (v2 : Int32) (v3 : Int32) (m : Mem) (b : Mem), L_X10_fundsAll_73 N n v2 v3 m = some b → Ex_X10_fundsAll_73 Γ 0 b → G Γ 5 0 m 73 [(0, .ref (oa (gw Γ) 95)), (2, .int v2), (3, .int v3)] [] := by
  intro n
  induction n with
  | zero =>
    intro v2 v3 m b h
    have h9 : (none : Option (Mem)) = some b := h
    cases h9
  | succ n ih => intro v2 v3 m b h hE; exact t_X10_fundsAll_73 N Γ C (L_X10_fundsAll_73 N n) b hE ih v2 v3 m h
set_option maxRecDepth 100000 in
set_option maxHeartbeats 4000000 in
theorem t_X10_fundsAll (N : Nat) (Γ : Gc) (C : Cx Γ cX10_fundsAll 5 RX10 (rmK 2 51 0)) (v1 : Int32) (v2 : Int32) (m : Mem) (b : Mem) (h : f_X10_fundsAll N v1 v2 m = some b) (hE : EVn Γ 5 cX10_fundsAll b) : G Γ 5 0 m 0 [(0, .ref (oa (gw Γ) 95)), (1, .int v1), (2, .int v2)] [] := by
  unfold f_X10_fundsAll at h
  refine g_iconst (v := (0 : Int32)) C dX10_fundsAll_0 (by decide) ?_
  refine g_istore_n (lv' := [(3, .int (0 : Int32)), (0, .ref (oa (gw Γ) 95)), (1, .int v1), (2, .int v2)]) C dX10_fundsAll_1 rfl (by decide) rfl ?_
  obtain ⟨v1_4, v2_4, m_4, hx, h⟩ := l3_some h
  refine g_sub [1, 2, 3, 0] rfl ?_
  refine lt_X10_fundsAll_2 N Γ C N v1 v2 (0 : Int32) m _ hx ?_
  intro z1 z2 m9 e9
  cases e9
  refine g_aload_n C dX10_fundsAll_21 0 rfl rfl ?_
  refine g_aload_n C dX10_fundsAll_22 0 rfl rfl ?_
  refine g_getT (b := 96) (ci := 10) (j := 1) C dX10_fundsAll_23 rfl (by decide) rfl inT_X10 (by decide) k_506 rfl rfl rfl rfl ?_
  refine g_iconst (v := (5 : Int32)) C dX10_fundsAll_26 (by decide) ?_
  refine g_iald' (j := 5) C dX10_fundsAll_27 (okA_of rfl rfl (by decide)) (by decide) ?_
  obtain ⟨m_5, e_5, h⟩ := wr_some h
  refine g_putI (ci := 10) (j := 22) C dX10_fundsAll_28 rfl (by decide) rfl inT_X10 (by decide) k_748 tyX10 tyX10_ok nmX10 rfl rfl rfl rfl rfl (G_m e_5 ?_)
  refine g_iconst (v := (0 : Int32)) C dX10_fundsAll_31 (by decide) ?_
  refine g_istore_n (lv' := [(3, .int (0 : Int32)), (0, .ref (oa (gw Γ) 95)), (1, .int v1_4), (2, .int v2_4)]) C dX10_fundsAll_32 rfl (by decide) rfl ?_
  obtain ⟨v2_10, m_10, hx, h⟩ := l2_some h
  refine g_sub [1, 2, 3, 0] rfl ?_
  refine lt_X10_fundsAll_33 N Γ C N v1_4 v2_4 (0 : Int32) m_5 _ hx ?_
  intro z2 m9 e9
  cases e9
  refine g_iconst (v := (0 : Int32)) C dX10_fundsAll_71 (by decide) ?_
  refine g_istore_n (lv' := [(3, .int (0 : Int32)), (0, .ref (oa (gw Γ) 95)), (2, .int v2_10)]) C dX10_fundsAll_72 rfl (by decide) rfl ?_
  obtain ⟨m_21, hx, h⟩ := l1_some h
  refine g_sub [1, 2, 0] rfl ?_
  refine lt_X10_fundsAll_73 N Γ C N v2_10 (0 : Int32) m_10 _ hx ?_
  intro  m9 e9
  cases e9
  obtain rfl := Option.some.inj h
  exact hE 160 _ dX10_fundsAll_160
theorem c_X10_fundsAll (N : Nat) (l : Launch) (hst : l.stackTraces = false) (w : Om) (v1 : Int32) (v2 : Int32) (m : Mem) (o : Mem) (h : f_X10_fundsAll N v1 v2 m = some o) : KV l yX10_fundsAll cX10_fundsAll 5 none 2 51 w [.ref (oa w 95), .int v1, .int v2] m o := KV_of hst (by decide +kernel) RX10 rfl (Nat.le_of_ble_eq_true rfl) (fun Γ hw hl C hE => by
  subst hw; subst hl
  exact t_X10_fundsAll N Γ C v1 v2 m o h hE)
def Ex_X10_fundedNow_4 (Γ : Gc) (cs : Nat) (b : Int32 × Mem) : Prop := (∀ (y1 : Int32) (m' : Mem), b = (y1, m') → G Γ 3 cs m' 35 [(1, .int y1)] [])
set_option maxRecDepth 100000 in
set_option maxHeartbeats 4000000 in
theorem t_X10_fundedNow_4 (N : Nat) (Γ : Gc) (C : Cx Γ cX10_fundedNow 3 RX10 (rmK 0 0 0)) (rc : Int32 → Int32 → Mem → Option (Int32 × Mem)) (b : Int32 × Mem) (hE : Ex_X10_fundedNow_4 Γ 0 b) (hrec : ∀ (v1 : Int32) (v2 : Int32) (m : Mem) (b : Int32 × Mem), rc v1 v2 m = some b → Ex_X10_fundedNow_4 Γ 0 b → G Γ 3 0 m 4 [(0, .ref (oa (gw Γ) 95)), (1, .int v1), (2, .int v2)] []) (v1 : Int32) (v2 : Int32) (m : Mem) (h : T_X10_fundedNow_4 N rc v1 v2 m = some b) : G Γ 3 0 m 4 [(0, .ref (oa (gw Γ) 95)), (1, .int v1), (2, .int v2)] [] := by
  unfold T_X10_fundedNow_4 at h
  refine g_iload_n C dX10_fundedNow_4 2 rfl rfl ?_
  refine g_bipush (v := (16 : Int32)) C dX10_fundedNow_5 (by decide) ?_
  refine g_icmp_ge (tgt := 35) C dX10_fundedNow_7 (by decide) (fun c_3 => ?_) (fun c_3 => ?_)
  · replace h := it_t c_3 h
    obtain rfl := Option.some.inj h
    refine g_sub [1] rfl ?_
    exact hE _ _ rfl
  · replace h := it_f c_3 h
    refine g_iload_n C dX10_fundedNow_10 1 rfl rfl ?_
    refine g_aload_n C dX10_fundedNow_11 0 rfl rfl ?_
    refine g_getT (b := 106) (ci := 10) (j := 20) C dX10_fundedNow_12 rfl (by decide) rfl inT_X10 (by decide) k_746 rfl rfl rfl rfl ?_
    refine g_iload_n C dX10_fundedNow_15 2 rfl rfl ?_
    obtain ⟨g_1, h⟩ := gd_some h
    refine g_iald C dX10_fundedNow_16 (okA_of rfl rfl g_1) ?_
    refine g_if_le (tgt := 26) C dX10_fundedNow_17 (by decide) (fun c_2 => ?_) (fun c_2 => ?_)
    · replace h := it_t c_2 h
      refine g_iconst (v := (0 : Int32)) C dX10_fundedNow_26 (by decide) ?_
      refine g_ior C dX10_fundedNow_27 ?_
      refine g_istore_n (lv' := [(1, .int (v1 ||| (0 : Int32))), (0, .ref (oa (gw Γ) 95)), (2, .int v2)]) C dX10_fundedNow_28 rfl (by decide) rfl ?_
      refine g_iinc (q := 2) (v := v2 + (1 : Int32)) (lv' := [(2, .int (v2 + (1 : Int32))), (1, .int (v1 ||| (0 : Int32))), (0, .ref (oa (gw Γ) 95))]) C dX10_fundedNow_29 rfl rfl (by decide) rfl ?_
      refine g_goto (tgt := 4) C dX10_fundedNow_32 (by decide) ?_
      refine g_sub [2, 1, 0] rfl ?_
      exact hrec (v1 ||| (0 : Int32)) (v2 + (1 : Int32)) m b h hE
    · replace h := it_f c_2 h
      refine g_iconst (v := (1 : Int32)) C dX10_fundedNow_20 (by decide) ?_
      refine g_iload_n C dX10_fundedNow_21 2 rfl rfl ?_
      refine g_ishl C dX10_fundedNow_22 ?_
      refine g_goto (tgt := 27) C dX10_fundedNow_23 (by decide) ?_
      refine g_ior C dX10_fundedNow_27 ?_
      refine g_istore_n (lv' := [(1, .int (v1 ||| ((1 : Int32) <<< (v2 &&& 31)))), (0, .ref (oa (gw Γ) 95)), (2, .int v2)]) C dX10_fundedNow_28 rfl (by decide) rfl ?_
      refine g_iinc (q := 2) (v := v2 + (1 : Int32)) (lv' := [(2, .int (v2 + (1 : Int32))), (1, .int (v1 ||| ((1 : Int32) <<< (v2 &&& 31)))), (0, .ref (oa (gw Γ) 95))]) C dX10_fundedNow_29 rfl rfl (by decide) rfl ?_
      refine g_goto (tgt := 4) C dX10_fundedNow_32 (by decide) ?_
      refine g_sub [2, 1, 0] rfl ?_
      exact hrec (v1 ||| ((1 : Int32) <<< (v2 &&& 31))) (v2 + (1 : Int32)) m b h hE
theorem lt_X10_fundedNow_4 (N : Nat) (Γ : Gc) (C : Cx Γ cX10_fundedNow 3 RX10 (rmK 0 0 0)) : ∀ (n : Nat) (v1 : Int32) (v2 : Int32) (m : Mem) (b : Int32 × Mem), L_X10_fundedNow_4 N n v1 v2 m = some b → Ex_X10_fundedNow_4 Γ 0 b → G Γ 3 0 m 4 [(0, .ref (oa (gw Γ) 95)), (1, .int v1), (2, .int v2)] [] := by
  intro n
  induction n with
  | zero =>
    intro v1 v2 m b h
    have h9 : (none : Option (Int32 × Mem)) = some b := h
    cases h9
  | succ n ih => intro v1 v2 m b h hE; exact t_X10_fundedNow_4 N Γ C (L_X10_fundedNow_4 N n) b hE ih v1 v2 m h
set_option maxRecDepth 100000 in
set_option maxHeartbeats 4000000 in
theorem t_X10_fundedNow (N : Nat) (Γ : Gc) (C : Cx Γ cX10_fundedNow 3 RX10 (rmK 0 0 0))  (m : Mem) (b : Int32 × Mem) (h : f_X10_fundedNow N  m = some b) (hE : EIn Γ 3 cX10_fundedNow b) : G Γ 3 0 m 0 [(0, .ref (oa (gw Γ) 95))] [] := by
  unfold f_X10_fundedNow at h
  refine g_iconst (v := (0 : Int32)) C dX10_fundedNow_0 (by decide) ?_
  refine g_istore_n (lv' := [(1, .int (0 : Int32)), (0, .ref (oa (gw Γ) 95))]) C dX10_fundedNow_1 rfl (by decide) rfl ?_
  refine g_iconst (v := (0 : Int32)) C dX10_fundedNow_2 (by decide) ?_
  refine g_istore_n (lv' := [(2, .int (0 : Int32)), (1, .int (0 : Int32)), (0, .ref (oa (gw Γ) 95))]) C dX10_fundedNow_3 rfl (by decide) rfl ?_
  obtain ⟨v1_4, m_4, hx, h⟩ := l2_some h
  refine g_sub [2, 1, 0] rfl ?_
  refine lt_X10_fundedNow_4 N Γ C N (0 : Int32) (0 : Int32) m _ hx ?_
  intro z1 m9 e9
  cases e9
  refine g_iload_n C dX10_fundedNow_35 0 rfl rfl ?_
  obtain rfl := Option.some.inj h
  exact hE 36 _ dX10_fundedNow_36
theorem c_X10_fundedNow (N : Nat) (l : Launch) (hst : l.stackTraces = false) (w : Om)  (m : Mem) (o : Int32 × Mem) (h : f_X10_fundedNow N  m = some o) : KI l yX10_fundedNow cX10_fundedNow 3 (some .int) 0 0 w [.ref (oa w 95)] m o.1 o.2 := KI_of hst (by decide +kernel) RX10 rfl (Nat.le_of_ble_eq_true rfl) (fun Γ hw hl C hE => by
  subst hw; subst hl
  exact t_X10_fundedNow N Γ C  m o h hE)
set_option maxRecDepth 100000 in
set_option maxHeartbeats 4000000 in
theorem t_X10_isMode_15 (N : Nat) (Γ : Gc) (C : Cx Γ cX10_isMode 2 RX10 (rmK 1 22 0)) (b : Int32 × Mem) (hE : EZn Γ 2 cX10_isMode b) (s0 : Int32) (m : Mem) (h : B_X10_isMode_15 N s0 m = some b) : G Γ 2 0 m 15 [(0, .ref (oa (gw Γ) 95))] [.int s0, .ref (oa (gw Γ) 95)] := by
  unfold B_X10_isMode_15 at h
  obtain ⟨m_2, e_2, h⟩ := wr_some h
  refine g_putI (ci := 10) (j := 0) C dX10_isMode_15 rfl (by decide) rfl inT_X10 (by decide) k_505 tyX10 tyX10_ok nmX10 rfl rfl rfl rfl rfl (G_m e_2 ?_)
  refine g_aload_n C dX10_isMode_18 0 rfl rfl ?_
  refine g_getI (ci := 10) (j := 0) C dX10_isMode_19 rfl (by decide) rfl inT_X10 (by decide) k_505 rfl rfl ?_
  refine g_if_ne (tgt := 29) C dX10_isMode_22 (by decide) (fun c_3 => ?_) (fun c_3 => ?_)
  · replace h := it_f c_3 h
    refine g_iconst (v := (0 : Int32)) C dX10_isMode_29 (by decide) ?_
    obtain rfl := Option.some.inj h
    exact hE 30 _ (show isB (0 : Int32) = true by decide) dX10_isMode_30
  · replace h := it_t c_3 h
    refine g_iconst (v := (1 : Int32)) C dX10_isMode_25 (by decide) ?_
    refine g_goto (tgt := 30) C dX10_isMode_26 (by decide) ?_
    obtain rfl := Option.some.inj h
    exact hE 30 _ (show isB (1 : Int32) = true by decide) dX10_isMode_30
set_option maxRecDepth 100000 in
set_option maxHeartbeats 4000000 in
theorem t_X10_isMode (N : Nat) (Γ : Gc) (C : Cx Γ cX10_isMode 2 RX10 (rmK 1 22 0)) (v1 : Int32) (m : Mem) (b : Int32 × Mem) (h : f_X10_isMode N v1 m = some b) (hE : EZn Γ 2 cX10_isMode b) : G Γ 2 0 m 0 [(0, .ref (oa (gw Γ) 95)), (1, .int v1)] [] := by
  unfold f_X10_isMode at h
  refine g_aload_n C dX10_isMode_0 0 rfl rfl ?_
  refine g_iload_n C dX10_isMode_1 1 rfl rfl ?_
  refine g_iconst (v := (0 : Int32)) C dX10_isMode_2 (by decide) ?_
  refine g_iconst (v := (2 : Int32)) C dX10_isMode_3 (by decide) ?_
  obtain ⟨r_1, m_1, hk_1, h⟩ := b2_some h
  refine g_sI (As := [.int v1, .int (0 : Int32), .int (2 : Int32)]) C dX10_isMode_4 mf_X10_in k_507 ⟨by decide, by decide⟩ rfl rfl (Nat.le_of_ble_eq_true rfl) (by decide) (c_X10_in N (gl Γ) C.2.2.2.2 (gw Γ) v1 (0 : Int32) (2 : Int32) m _ hk_1) ?_
  refine g_if_eq (tgt := 14) C dX10_isMode_7 (by decide) (fun c_4 => ?_) (fun c_4 => ?_)
  · replace h := it_t c_4 h
    refine g_iconst (v := (1 : Int32)) C dX10_isMode_14 (by decide) ?_
    refine g_sub [0] rfl ?_
    exact t_X10_isMode_15 N Γ C b hE (1 : Int32) m_1 h
  · replace h := it_f c_4 h
    refine g_iconst (v := (0 : Int32)) C dX10_isMode_10 (by decide) ?_
    refine g_goto (tgt := 15) C dX10_isMode_11 (by decide) ?_
    refine g_sub [0] rfl ?_
    exact t_X10_isMode_15 N Γ C b hE (0 : Int32) m_1 h
theorem c_X10_isMode (N : Nat) (l : Launch) (hst : l.stackTraces = false) (w : Om) (v1 : Int32) (m : Mem) (o : Int32 × Mem) (h : f_X10_isMode N v1 m = some o) : KI l yX10_isMode cX10_isMode 2 (some .boolean) 1 22 w [.ref (oa w 95), .int v1] m o.1 o.2 := KZ_of hst (by decide +kernel) RX10 rfl (Nat.le_of_ble_eq_true rfl) (fun Γ hw hl C hE => by
  subst hw; subst hl
  exact t_X10_isMode N Γ C v1 m o h hE)
set_option maxRecDepth 100000 in
set_option maxHeartbeats 4000000 in
theorem t_X10_pays (N : Nat) (Γ : Gc) (C : Cx Γ cX10_pays 2 RX10 (rmK 8 182 0)) (v1 : Int32) (m : Mem) (b : Mem) (h : f_X10_pays N v1 m = some b) (hE : EVn Γ 2 cX10_pays b) : G Γ 2 0 m 0 [(0, .ref (oa (gw Γ) 95)), (1, .int v1)] [] := by
  unfold f_X10_pays at h
  refine g_aload_n C dX10_pays_0 0 rfl rfl ?_
  obtain ⟨m_1, hk_1, h⟩ := b1_some h
  refine g_vV (As := []) (a := 95) (ci := 10) C dX10_pays_1 mf_X10_laysOrder k_753 rfl (by decide) ⟨by decide, by decide⟩ rfl rfl (Nat.le_of_ble_eq_true rfl) (by decide) rfl (c_X10_laysOrder N (gl Γ) C.2.2.2.2 (gw Γ)  m _ hk_1) ?_
  refine g_aload_n C dX10_pays_4 0 rfl rfl ?_
  refine g_iload_n C dX10_pays_5 1 rfl rfl ?_
  refine g_aload_n C dX10_pays_6 0 rfl rfl ?_
  refine g_getT (b := 98) (ci := 10) (j := 3) C dX10_pays_7 rfl (by decide) rfl inT_X10 (by decide) k_588 rfl rfl rfl rfl ?_
  refine g_iconst (v := (0 : Int32)) C dX10_pays_10 (by decide) ?_
  refine g_iald' (j := 0) C dX10_pays_11 (okA_of rfl rfl (by decide)) (by decide) ?_
  obtain ⟨m_2, hk_2, h⟩ := b1_some h
  refine g_vV (As := [.int v1, .int (gI m_1 98 0)]) (a := 95) (ci := 10) C dX10_pays_12 mf_X10_fundsAll k_757 rfl (by decide) ⟨by decide, by decide⟩ rfl rfl (Nat.le_of_ble_eq_true rfl) (by decide) rfl (c_X10_fundsAll N (gl Γ) C.2.2.2.2 (gw Γ) v1 (gI m_1 98 0) m_1 _ hk_2) ?_
  obtain rfl := Option.some.inj h
  exact hE 15 _ dX10_pays_15
theorem c_X10_pays (N : Nat) (l : Launch) (hst : l.stackTraces = false) (w : Om) (v1 : Int32) (m : Mem) (o : Mem) (h : f_X10_pays N v1 m = some o) : KV l yX10_pays cX10_pays 2 none 8 182 w [.ref (oa w 95), .int v1] m o := KV_of hst (by decide +kernel) RX10 rfl (Nat.le_of_ble_eq_true rfl) (fun Γ hw hl C hE => by
  subst hw; subst hl
  exact t_X10_pays N Γ C v1 m o h hE)
set_option maxRecDepth 100000 in
set_option maxHeartbeats 4000000 in
theorem t_X10_setLine_16 (N : Nat) (Γ : Gc) (C : Cx Γ cX10_setLine 3 RX10 (rmK 1 22 0)) (b : Int32 × Mem) (hE : EIn Γ 3 cX10_setLine b) (v1 : Int32) (s0 : Int32) (m : Mem) (h : B_X10_setLine_16 N v1 s0 m = some b) : G Γ 3 0 m 16 [(0, .ref (oa (gw Γ) 95)), (1, .int v1)] [.int s0, .ref (oa (gw Γ) 95)] := by
  unfold B_X10_setLine_16 at h
  obtain ⟨m_2, e_2, h⟩ := wr_some h
  refine g_putI (ci := 10) (j := 0) C dX10_setLine_16 rfl (by decide) rfl inT_X10 (by decide) k_505 tyX10 tyX10_ok nmX10 rfl rfl rfl rfl rfl (G_m e_2 ?_)
  refine g_aload_n C dX10_setLine_19 0 rfl rfl ?_
  refine g_getI (ci := 10) (j := 0) C dX10_setLine_20 rfl (by decide) rfl inT_X10 (by decide) k_505 rfl rfl ?_
  refine g_if_le (tgt := 28) C dX10_setLine_23 (by decide) (fun c_5 => ?_) (fun c_5 => ?_)
  · replace h := it_t c_5 h
    refine g_aload_n C dX10_setLine_28 0 rfl rfl ?_
    obtain ⟨m_3, hk_3, h⟩ := b1_some h
    refine g_vV (As := []) (a := 95) (ci := 10) C dX10_setLine_29 mf_X10_keeps k_641 rfl (by decide) ⟨by decide, by decide⟩ rfl rfl (Nat.le_of_ble_eq_true rfl) (by decide) rfl (c_X10_keeps N (gl Γ) C.2.2.2.2 (gw Γ)  m_2 _ hk_3) ?_
    refine g_aload_n C dX10_setLine_32 0 rfl rfl ?_
    refine g_getT (b := 98) (ci := 10) (j := 3) C dX10_setLine_33 rfl (by decide) rfl inT_X10 (by decide) k_588 rfl rfl rfl rfl ?_
    refine g_iconst (v := (0 : Int32)) C dX10_setLine_36 (by decide) ?_
    refine g_iald' (j := 0) C dX10_setLine_37 (okA_of rfl rfl (by decide)) (by decide) ?_
    refine g_istore_n (lv' := [(2, .int (gI m_3 98 0)), (0, .ref (oa (gw Γ) 95)), (1, .int v1)]) C dX10_setLine_38 rfl (by decide) rfl ?_
    refine g_aload_n C dX10_setLine_39 1 rfl rfl ?_
    refine g_getT (b := 98) (ci := 10) (j := 3) C dX10_setLine_40 rfl (by decide) rfl inT_X10 (by decide) k_588 rfl rfl rfl rfl ?_
    refine g_iconst (v := (0 : Int32)) C dX10_setLine_43 (by decide) ?_
    refine g_iload_n C dX10_setLine_44 2 rfl rfl ?_
    obtain ⟨m_4, e_4, h⟩ := wr_some h
    refine g_iast' (j := 0) C dX10_setLine_45 (okA_of rfl rfl (by decide)) (by decide) (G_m e_4 ?_)
    refine g_iload_n C dX10_setLine_46 0 rfl rfl ?_
    obtain rfl := Option.some.inj h
    exact hE 47 _ dX10_setLine_47
  · replace h := it_f c_5 h
    refine g_iconst (v := (0 : Int32)) C dX10_setLine_26 (by decide) ?_
    obtain rfl := Option.some.inj h
    exact hE 27 _ dX10_setLine_27
set_option maxRecDepth 100000 in
set_option maxHeartbeats 4000000 in
theorem t_X10_setLine (N : Nat) (Γ : Gc) (C : Cx Γ cX10_setLine 3 RX10 (rmK 1 22 0)) (v1 : Int32) (m : Mem) (b : Int32 × Mem) (h : f_X10_setLine N v1 m = some b) (hE : EIn Γ 3 cX10_setLine b) : G Γ 3 0 m 0 [(0, .ref (oa (gw Γ) 95)), (1, .int v1)] [] := by
  unfold f_X10_setLine at h
  refine g_aload_n C dX10_setLine_0 0 rfl rfl ?_
  refine g_iload_n C dX10_setLine_1 1 rfl rfl ?_
  refine g_iconst (v := (0 : Int32)) C dX10_setLine_2 (by decide) ?_
  refine g_ldc (v := (100000 : Int32)) C dX10_setLine_3 k_549 ?_
  obtain ⟨r_1, m_1, hk_1, h⟩ := b2_some h
  refine g_sI (As := [.int v1, .int (0 : Int32), .int (100000 : Int32)]) C dX10_setLine_5 mf_X10_in k_507 ⟨by decide, by decide⟩ rfl rfl (Nat.le_of_ble_eq_true rfl) (by decide) (c_X10_in N (gl Γ) C.2.2.2.2 (gw Γ) v1 (0 : Int32) (100000 : Int32) m _ hk_1) ?_
  refine g_if_eq (tgt := 15) C dX10_setLine_8 (by decide) (fun c_6 => ?_) (fun c_6 => ?_)
  · replace h := it_t c_6 h
    refine g_iconst (v := (1 : Int32)) C dX10_setLine_15 (by decide) ?_
    refine g_sub [0, 1] rfl ?_
    exact t_X10_setLine_16 N Γ C b hE v1 (1 : Int32) m_1 h
  · replace h := it_f c_6 h
    refine g_iconst (v := (0 : Int32)) C dX10_setLine_11 (by decide) ?_
    refine g_goto (tgt := 16) C dX10_setLine_12 (by decide) ?_
    refine g_sub [0, 1] rfl ?_
    exact t_X10_setLine_16 N Γ C b hE v1 (0 : Int32) m_1 h
theorem c_X10_setLine (N : Nat) (l : Launch) (hst : l.stackTraces = false) (w : Om) (v1 : Int32) (m : Mem) (o : Int32 × Mem) (h : f_X10_setLine N v1 m = some o) : KI l yX10_setLine cX10_setLine 3 (some .int) 1 22 w [.ref (oa w 95), .int v1] m o.1 o.2 := KI_of hst (by decide +kernel) RX10 rfl (Nat.le_of_ble_eq_true rfl) (fun Γ hw hl C hE => by
  subst hw; subst hl
  exact t_X10_setLine N Γ C v1 m o h hE)
set_option maxRecDepth 100000 in
set_option maxHeartbeats 4000000 in
theorem t_X10_amount (N : Nat) (Γ : Gc) (C : Cx Γ cX10_amount 3 RX10 (rmK 9 203 0)) (v1 : Int32) (v2 : Int32) (m : Mem) (b : Int32 × Mem) (h : f_X10_amount N v1 v2 m = some b) (hE : EIn Γ 3 cX10_amount b) : G Γ 3 0 m 0 [(0, .ref (oa (gw Γ) 95)), (1, .int v1), (2, .int v2)] [] := by
  unfold f_X10_amount at h
  refine g_aload_n C dX10_amount_0 0 rfl rfl ?_
  refine g_iload_n C dX10_amount_1 1 rfl rfl ?_
  obtain ⟨r_1, m_1, hk_1, h⟩ := b2_some h
  refine g_vI (As := [.int v1]) (a := 95) (ci := 10) C dX10_amount_2 mf_X10_isMode k_761 rfl (by decide) ⟨by decide, by decide⟩ rfl rfl (Nat.le_of_ble_eq_true rfl) (by decide) rfl (c_X10_isMode N (gl Γ) C.2.2.2.2 (gw Γ) v1 m _ hk_1) ?_
  refine g_if_ne (tgt := 10) C dX10_amount_5 (by decide) (fun c_7 => ?_) (fun c_7 => ?_)
  · replace h := it_f c_7 h
    refine g_aload_n C dX10_amount_10 0 rfl rfl ?_
    refine g_iload_n C dX10_amount_11 2 rfl rfl ?_
    obtain ⟨r_2, m_2, hk_2, h⟩ := b2_some h
    refine g_vI (As := [.int v2]) (a := 95) (ci := 10) C dX10_amount_12 mf_X10_isProposal k_629 rfl (by decide) ⟨by decide, by decide⟩ rfl rfl (Nat.le_of_ble_eq_true rfl) (by decide) rfl (c_X10_isProposal N (gl Γ) C.2.2.2.2 (gw Γ) v2 m_1 _ hk_2) ?_
    refine g_if_ne (tgt := 24) C dX10_amount_15 (by decide) (fun c_6 => ?_) (fun c_6 => ?_)
    · replace h := it_f c_6 h
      refine g_aload_n C dX10_amount_24 0 rfl rfl ?_
      refine g_iload_n C dX10_amount_25 1 rfl rfl ?_
      obtain ⟨m_3, hk_3, h⟩ := b1_some h
      refine g_vV (As := [.int v1]) (a := 95) (ci := 10) C dX10_amount_26 mf_X10_pays k_765 rfl (by decide) ⟨by decide, by decide⟩ rfl rfl (Nat.le_of_ble_eq_true rfl) (by decide) rfl (c_X10_pays N (gl Γ) C.2.2.2.2 (gw Γ) v1 m_2 _ hk_3) ?_
      refine g_aload_n C dX10_amount_29 0 rfl rfl ?_
      refine g_getT (b := 106) (ci := 10) (j := 20) C dX10_amount_30 rfl (by decide) rfl inT_X10 (by decide) k_746 rfl rfl rfl rfl ?_
      refine g_iload_n C dX10_amount_33 2 rfl rfl ?_
      obtain ⟨g_4, h⟩ := gd_some h
      refine g_iald C dX10_amount_34 (okA_of rfl rfl g_4) ?_
      obtain rfl := Option.some.inj h
      exact hE 35 _ dX10_amount_35
    · replace h := it_t c_6 h
      refine g_aload_n C dX10_amount_18 0 rfl rfl ?_
      refine g_iconst (v := (2 : Int32)) C dX10_amount_19 (by decide) ?_
      obtain ⟨r_5, m_5, hk_5, h⟩ := b2_some h
      refine g_vI (As := [.int (2 : Int32)]) (a := 95) (ci := 10) C dX10_amount_20 mf_X10_fails k_517 rfl (by decide) ⟨by decide, by decide⟩ rfl rfl (Nat.le_of_ble_eq_true rfl) (by decide) rfl (c_X10_fails N (gl Γ) C.2.2.2.2 (gw Γ) (2 : Int32) m_2 _ hk_5) ?_
      obtain rfl := Option.some.inj h
      exact hE 23 _ dX10_amount_23
  · replace h := it_t c_7 h
    refine g_iconst (v := (0 : Int32)) C dX10_amount_8 (by decide) ?_
    obtain rfl := Option.some.inj h
    exact hE 9 _ dX10_amount_9
theorem c_X10_amount (N : Nat) (l : Launch) (hst : l.stackTraces = false) (w : Om) (v1 : Int32) (v2 : Int32) (m : Mem) (o : Int32 × Mem) (h : f_X10_amount N v1 v2 m = some o) : KI l yX10_amount cX10_amount 3 (some .int) 9 203 w [.ref (oa w 95), .int v1, .int v2] m o.1 o.2 := KI_of hst (by decide +kernel) RX10 rfl (Nat.le_of_ble_eq_true rfl) (fun Γ hw hl C hE => by
  subst hw; subst hl
  exact t_X10_amount N Γ C v1 v2 m o h hE)
set_option maxRecDepth 100000 in
set_option maxHeartbeats 4000000 in
theorem t_X10_left (N : Nat) (Γ : Gc) (C : Cx Γ cX10_left 3 RX10 (rmK 9 203 0)) (v1 : Int32) (v2 : Int32) (m : Mem) (b : Int32 × Mem) (h : f_X10_left N v1 v2 m = some b) (hE : EIn Γ 3 cX10_left b) : G Γ 3 0 m 0 [(0, .ref (oa (gw Γ) 95)), (1, .int v1), (2, .int v2)] [] := by
  unfold f_X10_left at h
  refine g_aload_n C dX10_left_0 0 rfl rfl ?_
  refine g_iload_n C dX10_left_1 1 rfl rfl ?_
  obtain ⟨r_1, m_1, hk_1, h⟩ := b2_some h
  refine g_vI (As := [.int v1]) (a := 95) (ci := 10) C dX10_left_2 mf_X10_isMode k_761 rfl (by decide) ⟨by decide, by decide⟩ rfl rfl (Nat.le_of_ble_eq_true rfl) (by decide) rfl (c_X10_isMode N (gl Γ) C.2.2.2.2 (gw Γ) v1 m _ hk_1) ?_
  refine g_if_ne (tgt := 10) C dX10_left_5 (by decide) (fun c_7 => ?_) (fun c_7 => ?_)
  · replace h := it_f c_7 h
    refine g_aload_n C dX10_left_10 0 rfl rfl ?_
    refine g_iload_n C dX10_left_11 2 rfl rfl ?_
    obtain ⟨r_2, m_2, hk_2, h⟩ := b2_some h
    refine g_vI (As := [.int v2]) (a := 95) (ci := 10) C dX10_left_12 mf_X10_isPanel k_660 rfl (by decide) ⟨by decide, by decide⟩ rfl rfl (Nat.le_of_ble_eq_true rfl) (by decide) rfl (c_X10_isPanel N (gl Γ) C.2.2.2.2 (gw Γ) v2 m_1 _ hk_2) ?_
    refine g_if_ne (tgt := 24) C dX10_left_15 (by decide) (fun c_6 => ?_) (fun c_6 => ?_)
    · replace h := it_f c_6 h
      refine g_aload_n C dX10_left_24 0 rfl rfl ?_
      refine g_iload_n C dX10_left_25 1 rfl rfl ?_
      obtain ⟨m_3, hk_3, h⟩ := b1_some h
      refine g_vV (As := [.int v1]) (a := 95) (ci := 10) C dX10_left_26 mf_X10_pays k_765 rfl (by decide) ⟨by decide, by decide⟩ rfl rfl (Nat.le_of_ble_eq_true rfl) (by decide) rfl (c_X10_pays N (gl Γ) C.2.2.2.2 (gw Γ) v1 m_2 _ hk_3) ?_
      refine g_aload_n C dX10_left_29 0 rfl rfl ?_
      refine g_getT (b := 107) (ci := 10) (j := 21) C dX10_left_30 rfl (by decide) rfl inT_X10 (by decide) k_747 rfl rfl rfl rfl ?_
      refine g_iload_n C dX10_left_33 2 rfl rfl ?_
      obtain ⟨g_4, h⟩ := gd_some h
      refine g_iald C dX10_left_34 (okA_of rfl rfl g_4) ?_
      obtain rfl := Option.some.inj h
      exact hE 35 _ dX10_left_35
    · replace h := it_t c_6 h
      refine g_aload_n C dX10_left_18 0 rfl rfl ?_
      refine g_iconst (v := (2 : Int32)) C dX10_left_19 (by decide) ?_
      obtain ⟨r_5, m_5, hk_5, h⟩ := b2_some h
      refine g_vI (As := [.int (2 : Int32)]) (a := 95) (ci := 10) C dX10_left_20 mf_X10_fails k_517 rfl (by decide) ⟨by decide, by decide⟩ rfl rfl (Nat.le_of_ble_eq_true rfl) (by decide) rfl (c_X10_fails N (gl Γ) C.2.2.2.2 (gw Γ) (2 : Int32) m_2 _ hk_5) ?_
      obtain rfl := Option.some.inj h
      exact hE 23 _ dX10_left_23
  · replace h := it_t c_7 h
    refine g_iconst (v := (0 : Int32)) C dX10_left_8 (by decide) ?_
    obtain rfl := Option.some.inj h
    exact hE 9 _ dX10_left_9
theorem c_X10_left (N : Nat) (l : Launch) (hst : l.stackTraces = false) (w : Om) (v1 : Int32) (v2 : Int32) (m : Mem) (o : Int32 × Mem) (h : f_X10_left N v1 v2 m = some o) : KI l yX10_left cX10_left 3 (some .int) 9 203 w [.ref (oa w 95), .int v1, .int v2] m o.1 o.2 := KI_of hst (by decide +kernel) RX10 rfl (Nat.le_of_ble_eq_true rfl) (fun Γ hw hl C hE => by
  subst hw; subst hl
  exact t_X10_left N Γ C v1 v2 m o h hE)
set_option maxRecDepth 100000 in
set_option maxHeartbeats 4000000 in
theorem t_X10_poolLeft (N : Nat) (Γ : Gc) (C : Cx Γ cX10_poolLeft 2 RX10 (rmK 9 203 0)) (v1 : Int32) (m : Mem) (b : Int32 × Mem) (h : f_X10_poolLeft N v1 m = some b) (hE : EIn Γ 2 cX10_poolLeft b) : G Γ 2 0 m 0 [(0, .ref (oa (gw Γ) 95)), (1, .int v1)] [] := by
  unfold f_X10_poolLeft at h
  refine g_aload_n C dX10_poolLeft_0 0 rfl rfl ?_
  refine g_iload_n C dX10_poolLeft_1 1 rfl rfl ?_
  obtain ⟨r_1, m_1, hk_1, h⟩ := b2_some h
  refine g_vI (As := [.int v1]) (a := 95) (ci := 10) C dX10_poolLeft_2 mf_X10_isMode k_761 rfl (by decide) ⟨by decide, by decide⟩ rfl rfl (Nat.le_of_ble_eq_true rfl) (by decide) rfl (c_X10_isMode N (gl Γ) C.2.2.2.2 (gw Γ) v1 m _ hk_1) ?_
  refine g_if_ne (tgt := 10) C dX10_poolLeft_5 (by decide) (fun c_3 => ?_) (fun c_3 => ?_)
  · replace h := it_f c_3 h
    refine g_aload_n C dX10_poolLeft_10 0 rfl rfl ?_
    refine g_iload_n C dX10_poolLeft_11 1 rfl rfl ?_
    obtain ⟨m_2, hk_2, h⟩ := b1_some h
    refine g_vV (As := [.int v1]) (a := 95) (ci := 10) C dX10_poolLeft_12 mf_X10_pays k_765 rfl (by decide) ⟨by decide, by decide⟩ rfl rfl (Nat.le_of_ble_eq_true rfl) (by decide) rfl (c_X10_pays N (gl Γ) C.2.2.2.2 (gw Γ) v1 m_1 _ hk_2) ?_
    refine g_aload_n C dX10_poolLeft_15 0 rfl rfl ?_
    refine g_getI (ci := 10) (j := 22) C dX10_poolLeft_16 rfl (by decide) rfl inT_X10 (by decide) k_748 rfl rfl ?_
    obtain rfl := Option.some.inj h
    exact hE 19 _ dX10_poolLeft_19
  · replace h := it_t c_3 h
    refine g_iconst (v := (0 : Int32)) C dX10_poolLeft_8 (by decide) ?_
    obtain rfl := Option.some.inj h
    exact hE 9 _ dX10_poolLeft_9
theorem c_X10_poolLeft (N : Nat) (l : Launch) (hst : l.stackTraces = false) (w : Om) (v1 : Int32) (m : Mem) (o : Int32 × Mem) (h : f_X10_poolLeft N v1 m = some o) : KI l yX10_poolLeft cX10_poolLeft 2 (some .int) 9 203 w [.ref (oa w 95), .int v1] m o.1 o.2 := KI_of hst (by decide +kernel) RX10 rfl (Nat.le_of_ble_eq_true rfl) (fun Γ hw hl C hE => by
  subst hw; subst hl
  exact t_X10_poolLeft N Γ C v1 m o h hE)
set_option maxRecDepth 100000 in
set_option maxHeartbeats 4000000 in
theorem t_X10_funded (N : Nat) (Γ : Gc) (C : Cx Γ cX10_funded 2 RX10 (rmK 9 203 0)) (v1 : Int32) (m : Mem) (b : Int32 × Mem) (h : f_X10_funded N v1 m = some b) (hE : EIn Γ 2 cX10_funded b) : G Γ 2 0 m 0 [(0, .ref (oa (gw Γ) 95)), (1, .int v1)] [] := by
  unfold f_X10_funded at h
  refine g_aload_n C dX10_funded_0 0 rfl rfl ?_
  refine g_iload_n C dX10_funded_1 1 rfl rfl ?_
  obtain ⟨r_1, m_1, hk_1, h⟩ := b2_some h
  refine g_vI (As := [.int v1]) (a := 95) (ci := 10) C dX10_funded_2 mf_X10_isMode k_761 rfl (by decide) ⟨by decide, by decide⟩ rfl rfl (Nat.le_of_ble_eq_true rfl) (by decide) rfl (c_X10_isMode N (gl Γ) C.2.2.2.2 (gw Γ) v1 m _ hk_1) ?_
  refine g_if_ne (tgt := 10) C dX10_funded_5 (by decide) (fun c_4 => ?_) (fun c_4 => ?_)
  · replace h := it_f c_4 h
    refine g_aload_n C dX10_funded_10 0 rfl rfl ?_
    refine g_iload_n C dX10_funded_11 1 rfl rfl ?_
    obtain ⟨m_2, hk_2, h⟩ := b1_some h
    refine g_vV (As := [.int v1]) (a := 95) (ci := 10) C dX10_funded_12 mf_X10_pays k_765 rfl (by decide) ⟨by decide, by decide⟩ rfl rfl (Nat.le_of_ble_eq_true rfl) (by decide) rfl (c_X10_pays N (gl Γ) C.2.2.2.2 (gw Γ) v1 m_1 _ hk_2) ?_
    refine g_aload_n C dX10_funded_15 0 rfl rfl ?_
    obtain ⟨r_3, m_3, hk_3, h⟩ := b2_some h
    refine g_vI (As := []) (a := 95) (ci := 10) C dX10_funded_16 mf_X10_fundedNow k_769 rfl (by decide) ⟨by decide, by decide⟩ rfl rfl (Nat.le_of_ble_eq_true rfl) (by decide) rfl (c_X10_fundedNow N (gl Γ) C.2.2.2.2 (gw Γ)  m_2 _ hk_3) ?_
    obtain rfl := Option.some.inj h
    exact hE 19 _ dX10_funded_19
  · replace h := it_t c_4 h
    refine g_iconst (v := (0 : Int32)) C dX10_funded_8 (by decide) ?_
    obtain rfl := Option.some.inj h
    exact hE 9 _ dX10_funded_9
theorem c_X10_funded (N : Nat) (l : Launch) (hst : l.stackTraces = false) (w : Om) (v1 : Int32) (m : Mem) (o : Int32 × Mem) (h : f_X10_funded N v1 m = some o) : KI l yX10_funded cX10_funded 2 (some .int) 9 203 w [.ref (oa w 95), .int v1] m o.1 o.2 := KI_of hst (by decide +kernel) RX10 rfl (Nat.le_of_ble_eq_true rfl) (fun Γ hw hl C hE => by
  subst hw; subst hl
  exact t_X10_funded N Γ C v1 m o h hE)
def Ex_X10_bestSum_53 (Γ : Gc) (cs : Nat) (b : Int32 × Int32 × Int32 × Int32 × Int32 × Mem) : Prop := (∀ (y1 : Int32) (y2 : Int32) (y3 : Int32) (y4 : Int32) (y5 : Int32) (m' : Mem), b = (y1, y2, y3, y4, y5, m') → G Γ 8 cs m' 211 [(0, .ref (oa (gw Γ) 95)), (1, .int y1), (2, .int y2), (3, .int y3), (4, .int y4), (5, .int y5)] [])
set_option maxRecDepth 100000 in
set_option maxHeartbeats 4000000 in
theorem t_X10_bestSum_201 (N : Nat) (Γ : Gc) (C : Cx Γ cX10_bestSum 8 RX10 (rmK 8 182 0)) (rc : Int32 → Int32 → Int32 → Int32 → Int32 → Int32 → Mem → Option (Int32 × Int32 × Int32 × Int32 × Int32 × Mem)) (b : Int32 × Int32 × Int32 × Int32 × Int32 × Mem) (hE : Ex_X10_bestSum_53 Γ 0 b) (hrec : ∀ (v1 : Int32) (v2 : Int32) (v3 : Int32) (v4 : Int32) (v5 : Int32) (v6 : Int32) (m : Mem) (b : Int32 × Int32 × Int32 × Int32 × Int32 × Mem), rc v1 v2 v3 v4 v5 v6 m = some b → Ex_X10_bestSum_53 Γ 0 b → G Γ 8 0 m 53 [(0, .ref (oa (gw Γ) 95)), (1, .int v1), (2, .int v2), (3, .int v3), (4, .int v4), (5, .int v5), (6, .int v6)] []) (v1 : Int32) (v2 : Int32) (v3 : Int32) (v4 : Int32) (v6 : Int32) (s0 : Int32) (m : Mem) (h : B_X10_bestSum_201 N rc v1 v2 v3 v4 v6 s0 m = some b) : G Γ 8 0 m 201 [(0, .ref (oa (gw Γ) 95)), (1, .int v1), (2, .int v2), (3, .int v3), (4, .int v4), (6, .int v6)] [.int s0] := by
  unfold B_X10_bestSum_201 at h
  refine g_iconst (v := (0 : Int32)) C dX10_bestSum_201 (by decide) ?_
  refine g_iadd C dX10_bestSum_202 ?_
  refine g_istore (lv' := [(5, .int (s0 + (0 : Int32))), (0, .ref (oa (gw Γ) 95)), (1, .int v1), (2, .int v2), (3, .int v3), (4, .int v4), (6, .int v6)]) C dX10_bestSum_203 (by decide) rfl ?_
  refine g_iinc (q := 6) (v := v6 + (1 : Int32)) (lv' := [(6, .int (v6 + (1 : Int32))), (5, .int (s0 + (0 : Int32))), (0, .ref (oa (gw Γ) 95)), (1, .int v1), (2, .int v2), (3, .int v3), (4, .int v4)]) C dX10_bestSum_205 rfl rfl (by decide) rfl ?_
  refine g_goto (tgt := 53) C dX10_bestSum_208 (by decide) ?_
  refine g_sub [2, 3, 4, 5, 6, 1, 0] rfl ?_
  exact hrec v1 v2 v3 v4 (s0 + (0 : Int32)) (v6 + (1 : Int32)) m b h hE
set_option maxRecDepth 100000 in
set_option maxHeartbeats 4000000 in
theorem t_X10_bestSum_168 (N : Nat) (Γ : Gc) (C : Cx Γ cX10_bestSum 8 RX10 (rmK 8 182 0)) (rc : Int32 → Int32 → Int32 → Int32 → Int32 → Int32 → Mem → Option (Int32 × Int32 × Int32 × Int32 × Int32 × Mem)) (b : Int32 × Int32 × Int32 × Int32 × Int32 × Mem) (hE : Ex_X10_bestSum_53 Γ 0 b) (hrec : ∀ (v1 : Int32) (v2 : Int32) (v3 : Int32) (v4 : Int32) (v5 : Int32) (v6 : Int32) (m : Mem) (b : Int32 × Int32 × Int32 × Int32 × Int32 × Mem), rc v1 v2 v3 v4 v5 v6 m = some b → Ex_X10_bestSum_53 Γ 0 b → G Γ 8 0 m 53 [(0, .ref (oa (gw Γ) 95)), (1, .int v1), (2, .int v2), (3, .int v3), (4, .int v4), (5, .int v5), (6, .int v6)] []) (v1 : Int32) (v2 : Int32) (v3 : Int32) (v5 : Int32) (v6 : Int32) (v7 : Int32) (s0 : Int32) (m : Mem) (h : B_X10_bestSum_168 N rc v1 v2 v3 v5 v6 v7 s0 m = some b) : G Γ 8 0 m 168 [(0, .ref (oa (gw Γ) 95)), (1, .int v1), (2, .int v2), (3, .int v3), (5, .int v5), (6, .int v6), (7, .int v7)] [.int s0] := by
  unfold B_X10_bestSum_168 at h
  refine g_istore (lv' := [(4, .int s0), (0, .ref (oa (gw Γ) 95)), (1, .int v1), (2, .int v2), (3, .int v3), (5, .int v5), (6, .int v6), (7, .int v7)]) C dX10_bestSum_168 (by decide) rfl ?_
  refine g_iload C dX10_bestSum_170 5 rfl ?_
  refine g_iload_n C dX10_bestSum_172 4 rfl rfl ?_
  refine g_iload C dX10_bestSum_173 6 rfl ?_
  obtain ⟨r_9, m_9, hk_9, h⟩ := b2_some h
  refine g_sI (As := [.int v3, .int v6]) C dX10_bestSum_175 mf_X10_has k_591 ⟨by decide, by decide⟩ rfl rfl (Nat.le_of_ble_eq_true rfl) (by decide) (c_X10_has N (gl Γ) C.2.2.2.2 (gw Γ) v3 v6 m _ hk_9) ?_
  refine g_if_eq (tgt := 201) C dX10_bestSum_178 (by decide) (fun c_13 => ?_) (fun c_13 => ?_)
  · replace h := it_t c_13 h
    refine g_sub [1, 2, 3, 4, 0, 6] rfl ?_
    exact t_X10_bestSum_201 N Γ C rc b hE hrec v1 v2 v3 s0 v6 v5 m_9 h
  · replace h := it_f c_13 h
    refine g_iload C dX10_bestSum_181 7 rfl ?_
    refine g_if_eq (tgt := 201) C dX10_bestSum_183 (by decide) (fun c_12 => ?_) (fun c_12 => ?_)
    · replace h := it_t c_12 h
      refine g_sub [1, 2, 3, 4, 0, 6] rfl ?_
      exact t_X10_bestSum_201 N Γ C rc b hE hrec v1 v2 v3 s0 v6 v5 m_9 h
    · replace h := it_f c_12 h
      refine g_aload_n C dX10_bestSum_186 1 rfl rfl ?_
      refine g_getT (b := 105) (ci := 10) (j := 18) C dX10_bestSum_187 rfl (by decide) rfl inT_X10 (by decide) k_744 rfl rfl rfl rfl ?_
      refine g_aload_n C dX10_bestSum_190 1 rfl rfl ?_
      refine g_getT (b := 104) (ci := 10) (j := 17) C dX10_bestSum_191 rfl (by decide) rfl inT_X10 (by decide) k_745 rfl rfl rfl rfl ?_
      refine g_iload C dX10_bestSum_194 6 rfl ?_
      obtain ⟨g_10, h⟩ := gd_some h
      refine g_iald C dX10_bestSum_196 (okA_of rfl rfl g_10) ?_
      obtain ⟨g_11, h⟩ := gd_some h
      refine g_iald C dX10_bestSum_197 (okA_of rfl rfl g_11) ?_
      refine g_goto (tgt := 202) C dX10_bestSum_198 (by decide) ?_
      refine g_iadd C dX10_bestSum_202 ?_
      refine g_istore (lv' := [(5, .int (v5 + (gI m_9 105 (gI m_9 104 v6.toNatClampNeg).toNatClampNeg))), (4, .int s0), (0, .ref (oa (gw Γ) 95)), (1, .int v1), (2, .int v2), (3, .int v3), (6, .int v6), (7, .int v7)]) C dX10_bestSum_203 (by decide) rfl ?_
      refine g_iinc (q := 6) (v := v6 + (1 : Int32)) (lv' := [(6, .int (v6 + (1 : Int32))), (5, .int (v5 + (gI m_9 105 (gI m_9 104 v6.toNatClampNeg).toNatClampNeg))), (4, .int s0), (0, .ref (oa (gw Γ) 95)), (1, .int v1), (2, .int v2), (3, .int v3), (7, .int v7)]) C dX10_bestSum_205 rfl rfl (by decide) rfl ?_
      refine g_goto (tgt := 53) C dX10_bestSum_208 (by decide) ?_
      refine g_sub [3, 4, 5, 6, 2, 1, 0] rfl ?_
      exact hrec v1 v2 v3 s0 (v5 + (gI m_9 105 (gI m_9 104 v6.toNatClampNeg).toNatClampNeg)) (v6 + (1 : Int32)) m_9 b h hE
set_option maxRecDepth 100000 in
set_option maxHeartbeats 4000000 in
theorem t_X10_bestSum_118 (N : Nat) (Γ : Gc) (C : Cx Γ cX10_bestSum 8 RX10 (rmK 8 182 0)) (rc : Int32 → Int32 → Int32 → Int32 → Int32 → Int32 → Mem → Option (Int32 × Int32 × Int32 × Int32 × Int32 × Mem)) (b : Int32 × Int32 × Int32 × Int32 × Int32 × Mem) (hE : Ex_X10_bestSum_53 Γ 0 b) (hrec : ∀ (v1 : Int32) (v2 : Int32) (v3 : Int32) (v4 : Int32) (v5 : Int32) (v6 : Int32) (m : Mem) (b : Int32 × Int32 × Int32 × Int32 × Int32 × Mem), rc v1 v2 v3 v4 v5 v6 m = some b → Ex_X10_bestSum_53 Γ 0 b → G Γ 8 0 m 53 [(0, .ref (oa (gw Γ) 95)), (1, .int v1), (2, .int v2), (3, .int v3), (4, .int v4), (5, .int v5), (6, .int v6)] []) (v1 : Int32) (v2 : Int32) (v3 : Int32) (v4 : Int32) (v5 : Int32) (v6 : Int32) (s0 : Int32) (m : Mem) (h : B_X10_bestSum_118 N rc v1 v2 v3 v4 v5 v6 s0 m = some b) : G Γ 8 0 m 118 [(0, .ref (oa (gw Γ) 95)), (1, .int v1), (2, .int v2), (3, .int v3), (4, .int v4), (5, .int v5), (6, .int v6)] [.int s0] := by
  unfold B_X10_bestSum_118 at h
  refine g_istore (lv' := [(7, .int s0), (0, .ref (oa (gw Γ) 95)), (1, .int v1), (2, .int v2), (3, .int v3), (4, .int v4), (5, .int v5), (6, .int v6)]) C dX10_bestSum_118 (by decide) rfl ?_
  refine g_iload_n C dX10_bestSum_120 4 rfl rfl ?_
  refine g_iload C dX10_bestSum_121 7 rfl ?_
  obtain ⟨r_7, m_7, hk_7, h⟩ := b2_some h
  refine g_sI (As := [.int v3, .int v6]) C dX10_bestSum_123 mf_X10_has k_591 ⟨by decide, by decide⟩ rfl rfl (Nat.le_of_ble_eq_true rfl) (by decide) (c_X10_has N (gl Γ) C.2.2.2.2 (gw Γ) v3 v6 m _ hk_7) ?_
  refine g_if_ne (tgt := 134) C dX10_bestSum_126 (by decide) (fun c_17 => ?_) (fun c_17 => ?_)
  · replace h := it_f c_17 h
    refine g_iload C dX10_bestSum_134 0 rfl ?_
    refine g_if_eq (tgt := 157) C dX10_bestSum_136 (by decide) (fun c_16 => ?_) (fun c_16 => ?_)
    · replace h := it_t c_16 h
      refine g_aload_n C dX10_bestSum_157 1 rfl rfl ?_
      refine g_getT (b := 96) (ci := 10) (j := 1) C dX10_bestSum_158 rfl (by decide) rfl inT_X10 (by decide) k_506 rfl rfl rfl rfl ?_
      refine g_bipush (v := (7 : Int32)) C dX10_bestSum_161 (by decide) ?_
      refine g_iload_n C dX10_bestSum_163 2 rfl rfl ?_
      refine g_iadd C dX10_bestSum_164 ?_
      obtain ⟨g_8, h⟩ := gd_some h
      refine g_iald C dX10_bestSum_165 (okA_of rfl rfl g_8) ?_
      refine g_iconst (v := (1 : Int32)) C dX10_bestSum_166 (by decide) ?_
      refine g_iadd C dX10_bestSum_167 ?_
      refine g_sub [1, 2, 3, 4, 6, 7, 0] rfl ?_
      exact t_X10_bestSum_168 N Γ C rc b hE hrec v1 v2 v3 v5 v6 s0 ((gI m_7 96 ((7 : Int32) + v1).toNatClampNeg) + (1 : Int32)) m_7 h
    · replace h := it_f c_16 h
      refine g_iload C dX10_bestSum_139 5 rfl ?_
      refine g_aload_n C dX10_bestSum_141 1 rfl rfl ?_
      refine g_aload_n C dX10_bestSum_142 1 rfl rfl ?_
      refine g_getT (b := 104) (ci := 10) (j := 17) C dX10_bestSum_143 rfl (by decide) rfl inT_X10 (by decide) k_745 rfl rfl rfl rfl ?_
      refine g_iload C dX10_bestSum_146 7 rfl ?_
      obtain ⟨g_14, h⟩ := gd_some h
      refine g_iald C dX10_bestSum_148 (okA_of rfl rfl g_14) ?_
      refine g_iconst (v := (3 : Int32)) C dX10_bestSum_149 (by decide) ?_
      obtain ⟨r_15, m_15, hk_15, h⟩ := b2_some h
      refine g_vI (As := [.int (gI m_7 104 v6.toNatClampNeg), .int (3 : Int32)]) (a := 95) (ci := 10) C dX10_bestSum_150 mf_X10_proposal k_609 rfl (by decide) ⟨by decide, by decide⟩ rfl rfl (Nat.le_of_ble_eq_true rfl) (by decide) rfl (c_X10_proposal N (gl Γ) C.2.2.2.2 (gw Γ) (gI m_7 104 v6.toNatClampNeg) (3 : Int32) m_7 _ hk_15) ?_
      refine g_iadd C dX10_bestSum_153 ?_
      refine g_goto (tgt := 168) C dX10_bestSum_154 (by decide) ?_
      refine g_sub [1, 2, 3, 4, 6, 7, 0] rfl ?_
      exact t_X10_bestSum_168 N Γ C rc b hE hrec v1 v2 v3 v5 v6 s0 (v4 + r_15) m_15 h
  · replace h := it_t c_17 h
    refine g_iload C dX10_bestSum_129 5 rfl ?_
    refine g_goto (tgt := 168) C dX10_bestSum_131 (by decide) ?_
    refine g_sub [1, 2, 3, 4, 6, 7, 0] rfl ?_
    exact t_X10_bestSum_168 N Γ C rc b hE hrec v1 v2 v3 v5 v6 s0 v4 m_7 h
set_option maxRecDepth 100000 in
set_option maxHeartbeats 4000000 in
theorem t_X10_bestSum_117 (N : Nat) (Γ : Gc) (C : Cx Γ cX10_bestSum 8 RX10 (rmK 8 182 0)) (rc : Int32 → Int32 → Int32 → Int32 → Int32 → Int32 → Mem → Option (Int32 × Int32 × Int32 × Int32 × Int32 × Mem)) (b : Int32 × Int32 × Int32 × Int32 × Int32 × Mem) (hE : Ex_X10_bestSum_53 Γ 0 b) (hrec : ∀ (v1 : Int32) (v2 : Int32) (v3 : Int32) (v4 : Int32) (v5 : Int32) (v6 : Int32) (m : Mem) (b : Int32 × Int32 × Int32 × Int32 × Int32 × Mem), rc v1 v2 v3 v4 v5 v6 m = some b → Ex_X10_bestSum_53 Γ 0 b → G Γ 8 0 m 53 [(0, .ref (oa (gw Γ) 95)), (1, .int v1), (2, .int v2), (3, .int v3), (4, .int v4), (5, .int v5), (6, .int v6)] []) (v1 : Int32) (v2 : Int32) (v3 : Int32) (v4 : Int32) (v5 : Int32) (v6 : Int32) (m : Mem) (h : B_X10_bestSum_117 N rc v1 v2 v3 v4 v5 v6 m = some b) : G Γ 8 0 m 117 [(0, .ref (oa (gw Γ) 95)), (1, .int v1), (2, .int v2), (3, .int v3), (4, .int v4), (5, .int v5), (6, .int v6)] [] := by
  unfold B_X10_bestSum_117 at h
  refine g_iconst (v := (0 : Int32)) C dX10_bestSum_117 (by decide) ?_
  refine g_sub [0, 1, 2, 3, 4, 5, 6] rfl ?_
  exact t_X10_bestSum_118 N Γ C rc b hE hrec v1 v2 v3 v4 v5 v6 (0 : Int32) m h
set_option maxRecDepth 100000 in
set_option maxHeartbeats 4000000 in
theorem t_X10_bestSum_53 (N : Nat) (Γ : Gc) (C : Cx Γ cX10_bestSum 8 RX10 (rmK 8 182 0)) (rc : Int32 → Int32 → Int32 → Int32 → Int32 → Int32 → Mem → Option (Int32 × Int32 × Int32 × Int32 × Int32 × Mem)) (b : Int32 × Int32 × Int32 × Int32 × Int32 × Mem) (hE : Ex_X10_bestSum_53 Γ 0 b) (hrec : ∀ (v1 : Int32) (v2 : Int32) (v3 : Int32) (v4 : Int32) (v5 : Int32) (v6 : Int32) (m : Mem) (b : Int32 × Int32 × Int32 × Int32 × Int32 × Mem), rc v1 v2 v3 v4 v5 v6 m = some b → Ex_X10_bestSum_53 Γ 0 b → G Γ 8 0 m 53 [(0, .ref (oa (gw Γ) 95)), (1, .int v1), (2, .int v2), (3, .int v3), (4, .int v4), (5, .int v5), (6, .int v6)] []) (v1 : Int32) (v2 : Int32) (v3 : Int32) (v4 : Int32) (v5 : Int32) (v6 : Int32) (m : Mem) (h : T_X10_bestSum_53 N rc v1 v2 v3 v4 v5 v6 m = some b) : G Γ 8 0 m 53 [(0, .ref (oa (gw Γ) 95)), (1, .int v1), (2, .int v2), (3, .int v3), (4, .int v4), (5, .int v5), (6, .int v6)] [] := by
  unfold T_X10_bestSum_53 at h
  refine g_iload C dX10_bestSum_53 6 rfl ?_
  refine g_aload_n C dX10_bestSum_55 0 rfl rfl ?_
  refine g_getI (ci := 10) (j := 19) C dX10_bestSum_56 rfl (by decide) rfl inT_X10 (by decide) k_743 rfl rfl ?_
  refine g_icmp_ge (tgt := 211) C dX10_bestSum_59 (by decide) (fun c_22 => ?_) (fun c_22 => ?_)
  · replace h := it_t c_22 h
    obtain rfl := Option.some.inj h
    refine g_sub [0, 1, 2, 3, 4, 5] rfl ?_
    exact hE _ _ _ _ _ _ rfl
  · replace h := it_f c_22 h
    refine g_iload C dX10_bestSum_62 4 rfl ?_
    refine g_aload_n C dX10_bestSum_64 0 rfl rfl ?_
    refine g_getT (b := 96) (ci := 10) (j := 1) C dX10_bestSum_65 rfl (by decide) rfl inT_X10 (by decide) k_506 rfl rfl rfl rfl ?_
    refine g_bipush (v := (7 : Int32)) C dX10_bestSum_68 (by decide) ?_
    refine g_iload_n C dX10_bestSum_70 1 rfl rfl ?_
    refine g_iadd C dX10_bestSum_71 ?_
    obtain ⟨g_4, h⟩ := gd_some h
    refine g_iald C dX10_bestSum_72 (okA_of rfl rfl g_4) ?_
    refine g_icmp_gt (tgt := 211) C dX10_bestSum_73 (by decide) (fun c_21 => ?_) (fun c_21 => ?_)
    · replace h := it_t c_21 h
      obtain rfl := Option.some.inj h
      refine g_sub [0, 1, 2, 3, 4, 5] rfl ?_
      exact hE _ _ _ _ _ _ rfl
    · replace h := it_f c_21 h
      refine g_aload_n C dX10_bestSum_76 0 rfl rfl ?_
      refine g_aload_n C dX10_bestSum_77 0 rfl rfl ?_
      refine g_getT (b := 104) (ci := 10) (j := 17) C dX10_bestSum_78 rfl (by decide) rfl inT_X10 (by decide) k_745 rfl rfl rfl rfl ?_
      refine g_iload C dX10_bestSum_81 6 rfl ?_
      obtain ⟨g_5, h⟩ := gd_some h
      refine g_iald C dX10_bestSum_83 (okA_of rfl rfl g_5) ?_
      refine g_iconst (v := (0 : Int32)) C dX10_bestSum_84 (by decide) ?_
      obtain ⟨r_6, m_6, hk_6, h⟩ := b2_some h
      refine g_vI (As := [.int (gI m 104 v6.toNatClampNeg), .int (0 : Int32)]) (a := 95) (ci := 10) C dX10_bestSum_85 mf_X10_proposal k_609 rfl (by decide) ⟨by decide, by decide⟩ rfl rfl (Nat.le_of_ble_eq_true rfl) (by decide) rfl (c_X10_proposal N (gl Γ) C.2.2.2.2 (gw Γ) (gI m 104 v6.toNatClampNeg) (0 : Int32) m _ hk_6) ?_
      refine g_iload_n C dX10_bestSum_88 1 rfl rfl ?_
      refine g_icmp_ne (tgt := 117) C dX10_bestSum_89 (by decide) (fun c_20 => ?_) (fun c_20 => ?_)
      · replace h := it_f c_20 h
        refine g_sub [0, 1, 2, 3, 4, 5, 6] rfl ?_
        exact t_X10_bestSum_117 N Γ C rc b hE hrec v1 v2 v3 v4 v5 v6 m_6 h
      · replace h := it_t c_20 h
        refine g_aload_n C dX10_bestSum_92 0 rfl rfl ?_
        refine g_getT (b := 105) (ci := 10) (j := 18) C dX10_bestSum_93 rfl (by decide) rfl inT_X10 (by decide) k_744 rfl rfl rfl rfl ?_
        refine g_aload_n C dX10_bestSum_96 0 rfl rfl ?_
        refine g_getT (b := 104) (ci := 10) (j := 17) C dX10_bestSum_97 rfl (by decide) rfl inT_X10 (by decide) k_745 rfl rfl rfl rfl ?_
        refine g_iload C dX10_bestSum_100 6 rfl ?_
        refine g_iald C dX10_bestSum_102 (okA_of rfl rfl g_5) ?_
        obtain ⟨g_18, h⟩ := gd_some h
        refine g_iald C dX10_bestSum_103 (okA_of rfl rfl g_18) ?_
        refine g_aload_n C dX10_bestSum_104 0 rfl rfl ?_
        refine g_getT (b := 98) (ci := 10) (j := 3) C dX10_bestSum_105 rfl (by decide) rfl inT_X10 (by decide) k_588 rfl rfl rfl rfl ?_
        refine g_iconst (v := (0 : Int32)) C dX10_bestSum_108 (by decide) ?_
        refine g_iald' (j := 0) C dX10_bestSum_109 (okA_of rfl rfl (by decide)) (by decide) ?_
        refine g_icmp_lt (tgt := 117) C dX10_bestSum_110 (by decide) (fun c_19 => ?_) (fun c_19 => ?_)
        · replace h := it_t c_19 h
          refine g_sub [0, 1, 2, 3, 4, 5, 6] rfl ?_
          exact t_X10_bestSum_117 N Γ C rc b hE hrec v1 v2 v3 v4 v5 v6 m_6 h
        · replace h := it_f c_19 h
          refine g_iconst (v := (1 : Int32)) C dX10_bestSum_113 (by decide) ?_
          refine g_goto (tgt := 118) C dX10_bestSum_114 (by decide) ?_
          refine g_sub [0, 1, 2, 3, 4, 5, 6] rfl ?_
          exact t_X10_bestSum_118 N Γ C rc b hE hrec v1 v2 v3 v4 v5 v6 (1 : Int32) m_6 h
theorem lt_X10_bestSum_53 (N : Nat) (Γ : Gc) (C : Cx Γ cX10_bestSum 8 RX10 (rmK 8 182 0)) : ∀ (n : Nat) (v1 : Int32) (v2 : Int32) (v3 : Int32) (v4 : Int32) (v5 : Int32) (v6 : Int32) (m : Mem) (b : Int32 × Int32 × Int32 × Int32 × Int32 × Mem), L_X10_bestSum_53 N n v1 v2 v3 v4 v5 v6 m = some b → Ex_X10_bestSum_53 Γ 0 b → G Γ 8 0 m 53 [(0, .ref (oa (gw Γ) 95)), (1, .int v1), (2, .int v2), (3, .int v3), (4, .int v4), (5, .int v5), (6, .int v6)] [] := by
  intro n
  induction n with
  | zero =>
    intro v1 v2 v3 v4 v5 v6 m b h
    have h9 : (none : Option (Int32 × Int32 × Int32 × Int32 × Int32 × Mem)) = some b := h
    cases h9
  | succ n ih => intro v1 v2 v3 v4 v5 v6 m b h hE; exact t_X10_bestSum_53 N Γ C (L_X10_bestSum_53 N n) b hE ih v1 v2 v3 v4 v5 v6 m h
def Ex_X10_bestSum_34 (Γ : Gc) (cs : Nat) (b : Int32 × Mem) : Prop := (∀ (y2 : Int32) (m' : Mem), b = (y2, m') → G Γ 8 cs m' 244 [(2, .int y2)] [])
set_option maxRecDepth 100000 in
set_option maxHeartbeats 4000000 in
theorem t_X10_bestSum_236 (N : Nat) (Γ : Gc) (C : Cx Γ cX10_bestSum 8 RX10 (rmK 8 182 0)) (rc : Int32 → Int32 → Int32 → Mem → Option (Int32 × Mem)) (b : Int32 × Mem) (hE : Ex_X10_bestSum_34 Γ 0 b) (hrec : ∀ (v1 : Int32) (v2 : Int32) (v3 : Int32) (m : Mem) (b : Int32 × Mem), rc v1 v2 v3 m = some b → Ex_X10_bestSum_34 Γ 0 b → G Γ 8 0 m 34 [(0, .ref (oa (gw Γ) 95)), (1, .int v1), (2, .int v2), (3, .int v3)] []) (v1 : Int32) (v2 : Int32) (v3 : Int32) (m : Mem) (h : B_X10_bestSum_236 N rc v1 v2 v3 m = some b) : G Γ 8 0 m 236 [(0, .ref (oa (gw Γ) 95)), (1, .int v1), (2, .int v2), (3, .int v3)] [] := by
  unfold B_X10_bestSum_236 at h
  refine g_iload_n C dX10_bestSum_236 2 rfl rfl ?_
  refine g_istore_n (lv' := [(2, .int v2), (0, .ref (oa (gw Γ) 95)), (1, .int v1), (3, .int v3)]) C dX10_bestSum_237 rfl (by decide) rfl ?_
  refine g_iinc (q := 3) (v := v3 + (1 : Int32)) (lv' := [(3, .int (v3 + (1 : Int32))), (2, .int v2), (0, .ref (oa (gw Γ) 95)), (1, .int v1)]) C dX10_bestSum_238 rfl rfl (by decide) rfl ?_
  refine g_goto (tgt := 34) C dX10_bestSum_241 (by decide) ?_
  refine g_sub [2, 3, 1, 0] rfl ?_
  exact hrec v1 v2 (v3 + (1 : Int32)) m b h hE
set_option maxRecDepth 100000 in
set_option maxHeartbeats 4000000 in
theorem t_X10_bestSum_211 (N : Nat) (Γ : Gc) (C : Cx Γ cX10_bestSum 8 RX10 (rmK 8 182 0)) (rc : Int32 → Int32 → Int32 → Mem → Option (Int32 × Mem)) (b : Int32 × Mem) (hE : Ex_X10_bestSum_34 Γ 0 b) (hrec : ∀ (v1 : Int32) (v2 : Int32) (v3 : Int32) (m : Mem) (b : Int32 × Mem), rc v1 v2 v3 m = some b → Ex_X10_bestSum_34 Γ 0 b → G Γ 8 0 m 34 [(0, .ref (oa (gw Γ) 95)), (1, .int v1), (2, .int v2), (3, .int v3)] []) (v1 : Int32) (v2 : Int32) (v3 : Int32) (v4 : Int32) (v5 : Int32) (m : Mem) (h : B_X10_bestSum_211 N rc v1 v2 v3 v4 v5 m = some b) : G Γ 8 0 m 211 [(0, .ref (oa (gw Γ) 95)), (1, .int v1), (2, .int v2), (3, .int v3), (4, .int v4), (5, .int v5)] [] := by
  unfold B_X10_bestSum_211 at h
  refine g_iload C dX10_bestSum_211 4 rfl ?_
  refine g_aload_n C dX10_bestSum_213 0 rfl rfl ?_
  refine g_getT (b := 96) (ci := 10) (j := 1) C dX10_bestSum_214 rfl (by decide) rfl inT_X10 (by decide) k_506 rfl rfl rfl rfl ?_
  refine g_bipush (v := (7 : Int32)) C dX10_bestSum_217 (by decide) ?_
  refine g_iload_n C dX10_bestSum_219 1 rfl rfl ?_
  refine g_iadd C dX10_bestSum_220 ?_
  obtain ⟨g_24, h⟩ := gd_some h
  refine g_iald C dX10_bestSum_221 (okA_of rfl rfl g_24) ?_
  refine g_icmp_gt (tgt := 236) C dX10_bestSum_222 (by decide) (fun c_26 => ?_) (fun c_26 => ?_)
  · replace h := it_t c_26 h
    refine g_sub [0, 1, 2, 3] rfl ?_
    exact t_X10_bestSum_236 N Γ C rc b hE hrec v1 v2 v3 m h
  · replace h := it_f c_26 h
    refine g_iload C dX10_bestSum_225 5 rfl ?_
    refine g_iload_n C dX10_bestSum_227 2 rfl rfl ?_
    refine g_icmp_le (tgt := 236) C dX10_bestSum_228 (by decide) (fun c_25 => ?_) (fun c_25 => ?_)
    · replace h := it_t c_25 h
      refine g_sub [0, 1, 2, 3] rfl ?_
      exact t_X10_bestSum_236 N Γ C rc b hE hrec v1 v2 v3 m h
    · replace h := it_f c_25 h
      refine g_iload C dX10_bestSum_231 5 rfl ?_
      refine g_goto (tgt := 237) C dX10_bestSum_233 (by decide) ?_
      refine g_istore_n (lv' := [(2, .int v5), (0, .ref (oa (gw Γ) 95)), (1, .int v1), (3, .int v3), (4, .int v4), (5, .int v5)]) C dX10_bestSum_237 rfl (by decide) rfl ?_
      refine g_iinc (q := 3) (v := v3 + (1 : Int32)) (lv' := [(3, .int (v3 + (1 : Int32))), (2, .int v5), (0, .ref (oa (gw Γ) 95)), (1, .int v1), (4, .int v4), (5, .int v5)]) C dX10_bestSum_238 rfl rfl (by decide) rfl ?_
      refine g_goto (tgt := 34) C dX10_bestSum_241 (by decide) ?_
      refine g_sub [2, 3, 1, 0] rfl ?_
      exact hrec v1 v5 (v3 + (1 : Int32)) m b h hE
set_option maxRecDepth 100000 in
set_option maxHeartbeats 4000000 in
theorem t_X10_bestSum_34 (N : Nat) (Γ : Gc) (C : Cx Γ cX10_bestSum 8 RX10 (rmK 8 182 0)) (rc : Int32 → Int32 → Int32 → Mem → Option (Int32 × Mem)) (b : Int32 × Mem) (hE : Ex_X10_bestSum_34 Γ 0 b) (hrec : ∀ (v1 : Int32) (v2 : Int32) (v3 : Int32) (m : Mem) (b : Int32 × Mem), rc v1 v2 v3 m = some b → Ex_X10_bestSum_34 Γ 0 b → G Γ 8 0 m 34 [(0, .ref (oa (gw Γ) 95)), (1, .int v1), (2, .int v2), (3, .int v3)] []) (v1 : Int32) (v2 : Int32) (v3 : Int32) (m : Mem) (h : T_X10_bestSum_34 N rc v1 v2 v3 m = some b) : G Γ 8 0 m 34 [(0, .ref (oa (gw Γ) 95)), (1, .int v1), (2, .int v2), (3, .int v3)] [] := by
  unfold T_X10_bestSum_34 at h
  refine g_iload_n C dX10_bestSum_34 3 rfl rfl ?_
  refine g_iconst (v := (1 : Int32)) C dX10_bestSum_35 (by decide) ?_
  refine g_aload_n C dX10_bestSum_36 0 rfl rfl ?_
  refine g_getI (ci := 10) (j := 19) C dX10_bestSum_37 rfl (by decide) rfl inT_X10 (by decide) k_743 rfl rfl ?_
  refine g_ishl C dX10_bestSum_40 ?_
  refine g_icmp_ge (tgt := 244) C dX10_bestSum_41 (by decide) (fun c_27 => ?_) (fun c_27 => ?_)
  · replace h := it_t c_27 h
    obtain rfl := Option.some.inj h
    refine g_sub [2] rfl ?_
    exact hE _ _ rfl
  · replace h := it_f c_27 h
    refine g_iconst (v := (0 : Int32)) C dX10_bestSum_44 (by decide) ?_
    refine g_istore (lv' := [(4, .int (0 : Int32)), (0, .ref (oa (gw Γ) 95)), (1, .int v1), (2, .int v2), (3, .int v3)]) C dX10_bestSum_45 (by decide) rfl ?_
    refine g_iconst (v := (0 : Int32)) C dX10_bestSum_47 (by decide) ?_
    refine g_istore (lv' := [(5, .int (0 : Int32)), (4, .int (0 : Int32)), (0, .ref (oa (gw Γ) 95)), (1, .int v1), (2, .int v2), (3, .int v3)]) C dX10_bestSum_48 (by decide) rfl ?_
    refine g_iconst (v := (0 : Int32)) C dX10_bestSum_50 (by decide) ?_
    refine g_istore (lv' := [(6, .int (0 : Int32)), (5, .int (0 : Int32)), (4, .int (0 : Int32)), (0, .ref (oa (gw Γ) 95)), (1, .int v1), (2, .int v2), (3, .int v3)]) C dX10_bestSum_51 (by decide) rfl ?_
    obtain ⟨v1_23, v2_23, v3_23, v4_23, v5_23, m_23, hx, h⟩ := l6_some h
    refine g_sub [3, 4, 5, 6, 2, 1, 0] rfl ?_
    refine lt_X10_bestSum_53 N Γ C N v1 v2 v3 (0 : Int32) (0 : Int32) (0 : Int32) m _ hx ?_
    intro z1 z2 z3 z4 z5 m9 e9
    cases e9
    refine g_sub [0, 1, 2, 3, 4, 5] rfl ?_
    exact t_X10_bestSum_211 N Γ C rc b hE hrec v1_23 v2_23 v3_23 v4_23 v5_23 m_23 h
theorem lt_X10_bestSum_34 (N : Nat) (Γ : Gc) (C : Cx Γ cX10_bestSum 8 RX10 (rmK 8 182 0)) : ∀ (n : Nat) (v1 : Int32) (v2 : Int32) (v3 : Int32) (m : Mem) (b : Int32 × Mem), L_X10_bestSum_34 N n v1 v2 v3 m = some b → Ex_X10_bestSum_34 Γ 0 b → G Γ 8 0 m 34 [(0, .ref (oa (gw Γ) 95)), (1, .int v1), (2, .int v2), (3, .int v3)] [] := by
  intro n
  induction n with
  | zero =>
    intro v1 v2 v3 m b h
    have h9 : (none : Option (Int32 × Mem)) = some b := h
    cases h9
  | succ n ih => intro v1 v2 v3 m b h hE; exact t_X10_bestSum_34 N Γ C (L_X10_bestSum_34 N n) b hE ih v1 v2 v3 m h
set_option maxRecDepth 100000 in
set_option maxHeartbeats 4000000 in
theorem t_X10_bestSum_14 (N : Nat) (Γ : Gc) (C : Cx Γ cX10_bestSum 8 RX10 (rmK 8 182 0)) (b : Int32 × Mem) (hE : EIn Γ 8 cX10_bestSum b) (v1 : Int32) (s0 : Int32) (m : Mem) (h : B_X10_bestSum_14 N v1 s0 m = some b) : G Γ 8 0 m 14 [(0, .ref (oa (gw Γ) 95)), (1, .int v1)] [.int s0, .ref (oa (gw Γ) 95)] := by
  unfold B_X10_bestSum_14 at h
  obtain ⟨m_2, e_2, h⟩ := wr_some h
  refine g_putI (ci := 10) (j := 0) C dX10_bestSum_14 rfl (by decide) rfl inT_X10 (by decide) k_505 tyX10 tyX10_ok nmX10 rfl rfl rfl rfl rfl (G_m e_2 ?_)
  refine g_aload_n C dX10_bestSum_17 0 rfl rfl ?_
  refine g_getI (ci := 10) (j := 0) C dX10_bestSum_18 rfl (by decide) rfl inT_X10 (by decide) k_505 rfl rfl ?_
  refine g_if_le (tgt := 26) C dX10_bestSum_21 (by decide) (fun c_29 => ?_) (fun c_29 => ?_)
  · replace h := it_t c_29 h
    refine g_aload_n C dX10_bestSum_26 0 rfl rfl ?_
    obtain ⟨m_3, hk_3, h⟩ := b1_some h
    refine g_vV (As := []) (a := 95) (ci := 10) C dX10_bestSum_27 mf_X10_laysOrder k_753 rfl (by decide) ⟨by decide, by decide⟩ rfl rfl (Nat.le_of_ble_eq_true rfl) (by decide) rfl (c_X10_laysOrder N (gl Γ) C.2.2.2.2 (gw Γ)  m_2 _ hk_3) ?_
    refine g_iconst (v := (0 : Int32)) C dX10_bestSum_30 (by decide) ?_
    refine g_istore_n (lv' := [(2, .int (0 : Int32)), (0, .ref (oa (gw Γ) 95)), (1, .int v1)]) C dX10_bestSum_31 rfl (by decide) rfl ?_
    refine g_iconst (v := (0 : Int32)) C dX10_bestSum_32 (by decide) ?_
    refine g_istore_n (lv' := [(3, .int (0 : Int32)), (2, .int (0 : Int32)), (0, .ref (oa (gw Γ) 95)), (1, .int v1)]) C dX10_bestSum_33 rfl (by decide) rfl ?_
    obtain ⟨v2_28, m_28, hx, h⟩ := l2_some h
    refine g_sub [2, 3, 1, 0] rfl ?_
    refine lt_X10_bestSum_34 N Γ C N v1 (0 : Int32) (0 : Int32) m_3 _ hx ?_
    intro z2 m9 e9
    cases e9
    refine g_iload_n C dX10_bestSum_244 0 rfl rfl ?_
    obtain rfl := Option.some.inj h
    exact hE 245 _ dX10_bestSum_245
  · replace h := it_f c_29 h
    refine g_iconst (v := (0 : Int32)) C dX10_bestSum_24 (by decide) ?_
    obtain rfl := Option.some.inj h
    exact hE 25 _ dX10_bestSum_25
set_option maxRecDepth 100000 in
set_option maxHeartbeats 4000000 in
theorem t_X10_bestSum (N : Nat) (Γ : Gc) (C : Cx Γ cX10_bestSum 8 RX10 (rmK 8 182 0)) (v1 : Int32) (m : Mem) (b : Int32 × Mem) (h : f_X10_bestSum N v1 m = some b) (hE : EIn Γ 8 cX10_bestSum b) : G Γ 8 0 m 0 [(0, .ref (oa (gw Γ) 95)), (1, .int v1)] [] := by
  unfold f_X10_bestSum at h
  refine g_aload_n C dX10_bestSum_0 0 rfl rfl ?_
  refine g_aload_n C dX10_bestSum_1 0 rfl rfl ?_
  refine g_iload_n C dX10_bestSum_2 1 rfl rfl ?_
  obtain ⟨r_1, m_1, hk_1, h⟩ := b2_some h
  refine g_vI (As := [.int v1]) (a := 95) (ci := 10) C dX10_bestSum_3 mf_X10_isPanel k_660 rfl (by decide) ⟨by decide, by decide⟩ rfl rfl (Nat.le_of_ble_eq_true rfl) (by decide) rfl (c_X10_isPanel N (gl Γ) C.2.2.2.2 (gw Γ) v1 m _ hk_1) ?_
  refine g_if_eq (tgt := 13) C dX10_bestSum_6 (by decide) (fun c_30 => ?_) (fun c_30 => ?_)
  · replace h := it_t c_30 h
    refine g_iconst (v := (1 : Int32)) C dX10_bestSum_13 (by decide) ?_
    refine g_sub [0, 1] rfl ?_
    exact t_X10_bestSum_14 N Γ C b hE v1 (1 : Int32) m_1 h
  · replace h := it_f c_30 h
    refine g_iconst (v := (0 : Int32)) C dX10_bestSum_9 (by decide) ?_
    refine g_goto (tgt := 14) C dX10_bestSum_10 (by decide) ?_
    refine g_sub [0, 1] rfl ?_
    exact t_X10_bestSum_14 N Γ C b hE v1 (0 : Int32) m_1 h
theorem c_X10_bestSum (N : Nat) (l : Launch) (hst : l.stackTraces = false) (w : Om) (v1 : Int32) (m : Mem) (o : Int32 × Mem) (h : f_X10_bestSum N v1 m = some o) : KI l yX10_bestSum cX10_bestSum 8 (some .int) 8 182 w [.ref (oa w 95), .int v1] m o.1 o.2 := KI_of hst (by decide +kernel) RX10 rfl (Nat.le_of_ble_eq_true rfl) (fun Γ hw hl C hE => by
  subst hw; subst hl
  exact t_X10_bestSum N Γ C v1 m o h hE)
def Ex_X10_lineFor_46 (Γ : Gc) (cs : Nat) (b : Int32 × Mem) : Prop := (∀ (y3 : Int32) (m' : Mem), b = (y3, m') → G Γ 6 cs m' 128 [(3, .int y3)] [])
set_option maxRecDepth 100000 in
set_option maxHeartbeats 4000000 in
theorem t_X10_lineFor_121 (N : Nat) (Γ : Gc) (C : Cx Γ cX10_lineFor 6 RX10 (rmK 8 182 0)) (rc : Int32 → Int32 → Int32 → Int32 → Mem → Option (Int32 × Mem)) (b : Int32 × Mem) (hE : Ex_X10_lineFor_46 Γ 0 b) (hrec : ∀ (v1 : Int32) (v2 : Int32) (v3 : Int32) (v4 : Int32) (m : Mem) (b : Int32 × Mem), rc v1 v2 v3 v4 m = some b → Ex_X10_lineFor_46 Γ 0 b → G Γ 6 0 m 46 [(0, .ref (oa (gw Γ) 95)), (1, .int v1), (2, .int v2), (3, .int v3), (4, .int v4)] []) (v1 : Int32) (v2 : Int32) (v4 : Int32) (s0 : Int32) (m : Mem) (h : B_X10_lineFor_121 N rc v1 v2 v4 s0 m = some b) : G Γ 6 0 m 121 [(0, .ref (oa (gw Γ) 95)), (1, .int v1), (2, .int v2), (4, .int v4)] [.int s0] := by
  unfold B_X10_lineFor_121 at h
  refine g_istore_n (lv' := [(3, .int s0), (0, .ref (oa (gw Γ) 95)), (1, .int v1), (2, .int v2), (4, .int v4)]) C dX10_lineFor_121 rfl (by decide) rfl ?_
  refine g_iinc (q := 4) (v := v4 + (1 : Int32)) (lv' := [(4, .int (v4 + (1 : Int32))), (3, .int s0), (0, .ref (oa (gw Γ) 95)), (1, .int v1), (2, .int v2)]) C dX10_lineFor_122 rfl rfl (by decide) rfl ?_
  refine g_goto (tgt := 46) C dX10_lineFor_125 (by decide) ?_
  refine g_sub [2, 3, 4, 1, 0] rfl ?_
  exact hrec v1 v2 s0 (v4 + (1 : Int32)) m b h hE
set_option maxRecDepth 100000 in
set_option maxHeartbeats 4000000 in
theorem t_X10_lineFor_89 (N : Nat) (Γ : Gc) (C : Cx Γ cX10_lineFor 6 RX10 (rmK 8 182 0)) (rc : Int32 → Int32 → Int32 → Int32 → Mem → Option (Int32 × Mem)) (b : Int32 × Mem) (hE : Ex_X10_lineFor_46 Γ 0 b) (hrec : ∀ (v1 : Int32) (v2 : Int32) (v3 : Int32) (v4 : Int32) (m : Mem) (b : Int32 × Mem), rc v1 v2 v3 v4 m = some b → Ex_X10_lineFor_46 Γ 0 b → G Γ 6 0 m 46 [(0, .ref (oa (gw Γ) 95)), (1, .int v1), (2, .int v2), (3, .int v3), (4, .int v4)] []) (v1 : Int32) (v2 : Int32) (v3 : Int32) (v4 : Int32) (s0 : Int32) (m : Mem) (h : B_X10_lineFor_89 N rc v1 v2 v3 v4 s0 m = some b) : G Γ 6 0 m 89 [(0, .ref (oa (gw Γ) 95)), (1, .int v1), (2, .int v2), (3, .int v3), (4, .int v4)] [.int s0] := by
  unfold B_X10_lineFor_89 at h
  refine g_istore (lv' := [(5, .int s0), (0, .ref (oa (gw Γ) 95)), (1, .int v1), (2, .int v2), (3, .int v3), (4, .int v4)]) C dX10_lineFor_89 (by decide) rfl ?_
  refine g_iload C dX10_lineFor_91 0 rfl ?_
  refine g_iload_n C dX10_lineFor_93 4 rfl rfl ?_
  refine g_icmp_le (tgt := 122) C dX10_lineFor_94 (by decide) (fun c_10 => ?_) (fun c_10 => ?_)
  · replace h := it_t c_10 h
    refine g_iinc (q := 5) (v := v4 + (1 : Int32)) (lv' := [(4, .int (v4 + (1 : Int32))), (5, .int s0), (0, .ref (oa (gw Γ) 95)), (1, .int v1), (2, .int v2), (3, .int v3)]) C dX10_lineFor_122 rfl rfl (by decide) rfl ?_
    refine g_goto (tgt := 46) C dX10_lineFor_125 (by decide) ?_
    refine g_sub [2, 3, 4, 5, 0] rfl ?_
    exact hrec v1 v2 v3 (v4 + (1 : Int32)) m b h hE
  · replace h := it_f c_10 h
    refine g_aload_n C dX10_lineFor_97 1 rfl rfl ?_
    refine g_iload_n C dX10_lineFor_98 2 rfl rfl ?_
    refine g_iload C dX10_lineFor_99 0 rfl ?_
    obtain ⟨m_6, hk_6, h⟩ := b1_some h
    refine g_vV (As := [.int v1, .int s0]) (a := 95) (ci := 10) C dX10_lineFor_101 mf_X10_fundsAll k_757 rfl (by decide) ⟨by decide, by decide⟩ rfl rfl (Nat.le_of_ble_eq_true rfl) (by decide) rfl (c_X10_fundsAll N (gl Γ) C.2.2.2.2 (gw Γ) v1 s0 m _ hk_6) ?_
    refine g_aload_n C dX10_lineFor_104 1 rfl rfl ?_
    obtain ⟨r_7, m_7, hk_7, h⟩ := b2_some h
    refine g_vI (As := []) (a := 95) (ci := 10) C dX10_lineFor_105 mf_X10_fundedNow k_769 rfl (by decide) ⟨by decide, by decide⟩ rfl rfl (Nat.le_of_ble_eq_true rfl) (by decide) rfl (c_X10_fundedNow N (gl Γ) C.2.2.2.2 (gw Γ)  m_6 _ hk_7) ?_
    obtain ⟨r_8, m_8, hk_8, h⟩ := b2_some h
    refine g_sI (As := [.int r_7]) C dX10_lineFor_108 mf_X10_bits k_598 ⟨by decide, by decide⟩ rfl rfl (Nat.le_of_ble_eq_true rfl) (by decide) (c_X10_bits N (gl Γ) C.2.2.2.2 (gw Γ) r_7 m_7 _ hk_8) ?_
    refine g_iload_n C dX10_lineFor_111 3 rfl rfl ?_
    refine g_icmp_lt (tgt := 120) C dX10_lineFor_112 (by decide) (fun c_9 => ?_) (fun c_9 => ?_)
    · replace h := it_t c_9 h
      refine g_iload_n C dX10_lineFor_120 4 rfl rfl ?_
      refine g_sub [1, 2, 3, 5] rfl ?_
      exact t_X10_lineFor_121 N Γ C rc b hE hrec v1 v2 v4 v3 m_8 h
    · replace h := it_f c_9 h
      refine g_iload C dX10_lineFor_115 0 rfl ?_
      refine g_goto (tgt := 121) C dX10_lineFor_117 (by decide) ?_
      refine g_sub [1, 2, 3, 5] rfl ?_
      exact t_X10_lineFor_121 N Γ C rc b hE hrec v1 v2 v4 s0 m_8 h
set_option maxRecDepth 100000 in
set_option maxHeartbeats 4000000 in
theorem t_X10_lineFor_46 (N : Nat) (Γ : Gc) (C : Cx Γ cX10_lineFor 6 RX10 (rmK 8 182 0)) (rc : Int32 → Int32 → Int32 → Int32 → Mem → Option (Int32 × Mem)) (b : Int32 × Mem) (hE : Ex_X10_lineFor_46 Γ 0 b) (hrec : ∀ (v1 : Int32) (v2 : Int32) (v3 : Int32) (v4 : Int32) (m : Mem) (b : Int32 × Mem), rc v1 v2 v3 v4 m = some b → Ex_X10_lineFor_46 Γ 0 b → G Γ 6 0 m 46 [(0, .ref (oa (gw Γ) 95)), (1, .int v1), (2, .int v2), (3, .int v3), (4, .int v4)] []) (v1 : Int32) (v2 : Int32) (v3 : Int32) (v4 : Int32) (m : Mem) (h : T_X10_lineFor_46 N rc v1 v2 v3 v4 m = some b) : G Γ 6 0 m 46 [(0, .ref (oa (gw Γ) 95)), (1, .int v1), (2, .int v2), (3, .int v3), (4, .int v4)] [] := by
  unfold T_X10_lineFor_46 at h
  refine g_iload C dX10_lineFor_46 4 rfl ?_
  refine g_aload_n C dX10_lineFor_48 0 rfl rfl ?_
  refine g_getI (ci := 10) (j := 19) C dX10_lineFor_49 rfl (by decide) rfl inT_X10 (by decide) k_743 rfl rfl ?_
  refine g_icmp_ge (tgt := 128) C dX10_lineFor_52 (by decide) (fun c_12 => ?_) (fun c_12 => ?_)
  · replace h := it_t c_12 h
    obtain rfl := Option.some.inj h
    refine g_sub [3] rfl ?_
    exact hE _ _ rfl
  · replace h := it_f c_12 h
    refine g_aload_n C dX10_lineFor_55 0 rfl rfl ?_
    refine g_getT (b := 105) (ci := 10) (j := 18) C dX10_lineFor_56 rfl (by decide) rfl inT_X10 (by decide) k_744 rfl rfl rfl rfl ?_
    refine g_aload_n C dX10_lineFor_59 0 rfl rfl ?_
    refine g_getT (b := 104) (ci := 10) (j := 17) C dX10_lineFor_60 rfl (by decide) rfl inT_X10 (by decide) k_745 rfl rfl rfl rfl ?_
    refine g_iload C dX10_lineFor_63 4 rfl ?_
    obtain ⟨g_4, h⟩ := gd_some h
    refine g_iald C dX10_lineFor_65 (okA_of rfl rfl g_4) ?_
    obtain ⟨g_5, h⟩ := gd_some h
    refine g_iald C dX10_lineFor_66 (okA_of rfl rfl g_5) ?_
    refine g_ldc (v := (100000 : Int32)) C dX10_lineFor_67 k_549 ?_
    refine g_icmp_le (tgt := 77) C dX10_lineFor_69 (by decide) (fun c_11 => ?_) (fun c_11 => ?_)
    · replace h := it_t c_11 h
      refine g_aload_n C dX10_lineFor_77 0 rfl rfl ?_
      refine g_getT (b := 105) (ci := 10) (j := 18) C dX10_lineFor_78 rfl (by decide) rfl inT_X10 (by decide) k_744 rfl rfl rfl rfl ?_
      refine g_aload_n C dX10_lineFor_81 0 rfl rfl ?_
      refine g_getT (b := 104) (ci := 10) (j := 17) C dX10_lineFor_82 rfl (by decide) rfl inT_X10 (by decide) k_745 rfl rfl rfl rfl ?_
      refine g_iload C dX10_lineFor_85 4 rfl ?_
      refine g_iald C dX10_lineFor_87 (okA_of rfl rfl g_4) ?_
      refine g_iald C dX10_lineFor_88 (okA_of rfl rfl g_5) ?_
      refine g_sub [0, 1, 2, 3, 4] rfl ?_
      exact t_X10_lineFor_89 N Γ C rc b hE hrec v1 v2 v3 v4 (gI m 105 (gI m 104 v4.toNatClampNeg).toNatClampNeg) m h
    · replace h := it_f c_11 h
      refine g_ldc (v := (100000 : Int32)) C dX10_lineFor_72 k_549 ?_
      refine g_goto (tgt := 89) C dX10_lineFor_74 (by decide) ?_
      refine g_sub [0, 1, 2, 3, 4] rfl ?_
      exact t_X10_lineFor_89 N Γ C rc b hE hrec v1 v2 v3 v4 (100000 : Int32) m h
theorem lt_X10_lineFor_46 (N : Nat) (Γ : Gc) (C : Cx Γ cX10_lineFor 6 RX10 (rmK 8 182 0)) : ∀ (n : Nat) (v1 : Int32) (v2 : Int32) (v3 : Int32) (v4 : Int32) (m : Mem) (b : Int32 × Mem), L_X10_lineFor_46 N n v1 v2 v3 v4 m = some b → Ex_X10_lineFor_46 Γ 0 b → G Γ 6 0 m 46 [(0, .ref (oa (gw Γ) 95)), (1, .int v1), (2, .int v2), (3, .int v3), (4, .int v4)] [] := by
  intro n
  induction n with
  | zero =>
    intro v1 v2 v3 v4 m b h
    have h9 : (none : Option (Int32 × Mem)) = some b := h
    cases h9
  | succ n ih => intro v1 v2 v3 v4 m b h hE; exact t_X10_lineFor_46 N Γ C (L_X10_lineFor_46 N n) b hE ih v1 v2 v3 v4 m h
set_option maxRecDepth 100000 in
set_option maxHeartbeats 4000000 in
theorem t_X10_lineFor_25 (N : Nat) (Γ : Gc) (C : Cx Γ cX10_lineFor 6 RX10 (rmK 8 182 0)) (b : Int32 × Mem) (hE : EIn Γ 6 cX10_lineFor b) (v1 : Int32) (v2 : Int32) (s0 : Int32) (m : Mem) (h : B_X10_lineFor_25 N v1 v2 s0 m = some b) : G Γ 6 0 m 25 [(0, .ref (oa (gw Γ) 95)), (1, .int v1), (2, .int v2)] [.int s0, .ref (oa (gw Γ) 95)] := by
  unfold B_X10_lineFor_25 at h
  obtain ⟨m_2, e_2, h⟩ := wr_some h
  refine g_putI (ci := 10) (j := 0) C dX10_lineFor_25 rfl (by decide) rfl inT_X10 (by decide) k_505 tyX10 tyX10_ok nmX10 rfl rfl rfl rfl rfl (G_m e_2 ?_)
  refine g_aload_n C dX10_lineFor_28 0 rfl rfl ?_
  refine g_getI (ci := 10) (j := 0) C dX10_lineFor_29 rfl (by decide) rfl inT_X10 (by decide) k_505 rfl rfl ?_
  refine g_if_le (tgt := 37) C dX10_lineFor_32 (by decide) (fun c_14 => ?_) (fun c_14 => ?_)
  · replace h := it_t c_14 h
    refine g_aload_n C dX10_lineFor_37 0 rfl rfl ?_
    obtain ⟨m_3, hk_3, h⟩ := b1_some h
    refine g_vV (As := []) (a := 95) (ci := 10) C dX10_lineFor_38 mf_X10_laysOrder k_753 rfl (by decide) ⟨by decide, by decide⟩ rfl rfl (Nat.le_of_ble_eq_true rfl) (by decide) rfl (c_X10_laysOrder N (gl Γ) C.2.2.2.2 (gw Γ)  m_2 _ hk_3) ?_
    refine g_iconst (v := (-1 : Int32)) C dX10_lineFor_41 (by decide) ?_
    refine g_istore_n (lv' := [(3, .int (-1 : Int32)), (0, .ref (oa (gw Γ) 95)), (1, .int v1), (2, .int v2)]) C dX10_lineFor_42 rfl (by decide) rfl ?_
    refine g_iconst (v := (0 : Int32)) C dX10_lineFor_43 (by decide) ?_
    refine g_istore (lv' := [(4, .int (0 : Int32)), (3, .int (-1 : Int32)), (0, .ref (oa (gw Γ) 95)), (1, .int v1), (2, .int v2)]) C dX10_lineFor_44 (by decide) rfl ?_
    obtain ⟨v3_13, m_13, hx, h⟩ := l2_some h
    refine g_sub [2, 3, 4, 1, 0] rfl ?_
    refine lt_X10_lineFor_46 N Γ C N v1 v2 (-1 : Int32) (0 : Int32) m_3 _ hx ?_
    intro z3 m9 e9
    cases e9
    refine g_iload_n C dX10_lineFor_128 0 rfl rfl ?_
    obtain rfl := Option.some.inj h
    exact hE 129 _ dX10_lineFor_129
  · replace h := it_f c_14 h
    refine g_iconst (v := (0 : Int32)) C dX10_lineFor_35 (by decide) ?_
    obtain rfl := Option.some.inj h
    exact hE 36 _ dX10_lineFor_36
set_option maxRecDepth 100000 in
set_option maxHeartbeats 4000000 in
theorem t_X10_lineFor_24 (N : Nat) (Γ : Gc) (C : Cx Γ cX10_lineFor 6 RX10 (rmK 8 182 0)) (b : Int32 × Mem) (hE : EIn Γ 6 cX10_lineFor b) (v1 : Int32) (v2 : Int32) (m : Mem) (h : B_X10_lineFor_24 N v1 v2 m = some b) : G Γ 6 0 m 24 [(0, .ref (oa (gw Γ) 95)), (1, .int v1), (2, .int v2)] [.ref (oa (gw Γ) 95)] := by
  unfold B_X10_lineFor_24 at h
  refine g_iconst (v := (1 : Int32)) C dX10_lineFor_24 (by decide) ?_
  refine g_sub [0, 1, 2] rfl ?_
  exact t_X10_lineFor_25 N Γ C b hE v1 v2 (1 : Int32) m h
set_option maxRecDepth 100000 in
set_option maxHeartbeats 4000000 in
theorem t_X10_lineFor (N : Nat) (Γ : Gc) (C : Cx Γ cX10_lineFor 6 RX10 (rmK 8 182 0)) (v1 : Int32) (v2 : Int32) (m : Mem) (b : Int32 × Mem) (h : f_X10_lineFor N v1 v2 m = some b) (hE : EIn Γ 6 cX10_lineFor b) : G Γ 6 0 m 0 [(0, .ref (oa (gw Γ) 95)), (1, .int v1), (2, .int v2)] [] := by
  unfold f_X10_lineFor at h
  refine g_aload_n C dX10_lineFor_0 0 rfl rfl ?_
  refine g_iload_n C dX10_lineFor_1 1 rfl rfl ?_
  refine g_iconst (v := (0 : Int32)) C dX10_lineFor_2 (by decide) ?_
  refine g_iconst (v := (2 : Int32)) C dX10_lineFor_3 (by decide) ?_
  obtain ⟨r_1, m_1, hk_1, h⟩ := b2_some h
  refine g_sI (As := [.int v1, .int (0 : Int32), .int (2 : Int32)]) C dX10_lineFor_4 mf_X10_in k_507 ⟨by decide, by decide⟩ rfl rfl (Nat.le_of_ble_eq_true rfl) (by decide) (c_X10_in N (gl Γ) C.2.2.2.2 (gw Γ) v1 (0 : Int32) (2 : Int32) m _ hk_1) ?_
  refine g_if_eq (tgt := 24) C dX10_lineFor_7 (by decide) (fun c_17 => ?_) (fun c_17 => ?_)
  · replace h := it_t c_17 h
    refine g_sub [0, 1, 2] rfl ?_
    exact t_X10_lineFor_24 N Γ C b hE v1 v2 m_1 h
  · replace h := it_f c_17 h
    refine g_iload_n C dX10_lineFor_10 2 rfl rfl ?_
    refine g_iconst (v := (1 : Int32)) C dX10_lineFor_11 (by decide) ?_
    refine g_bipush (v := (16 : Int32)) C dX10_lineFor_12 (by decide) ?_
    obtain ⟨r_15, m_15, hk_15, h⟩ := b2_some h
    refine g_sI (As := [.int v2, .int (1 : Int32), .int (16 : Int32)]) C dX10_lineFor_14 mf_X10_in k_507 ⟨by decide, by decide⟩ rfl rfl (Nat.le_of_ble_eq_true rfl) (by decide) (c_X10_in N (gl Γ) C.2.2.2.2 (gw Γ) v2 (1 : Int32) (16 : Int32) m_1 _ hk_15) ?_
    refine g_if_eq (tgt := 24) C dX10_lineFor_17 (by decide) (fun c_16 => ?_) (fun c_16 => ?_)
    · replace h := it_t c_16 h
      refine g_sub [0, 1, 2] rfl ?_
      exact t_X10_lineFor_24 N Γ C b hE v1 v2 m_15 h
    · replace h := it_f c_16 h
      refine g_iconst (v := (0 : Int32)) C dX10_lineFor_20 (by decide) ?_
      refine g_goto (tgt := 25) C dX10_lineFor_21 (by decide) ?_
      refine g_sub [0, 1, 2] rfl ?_
      exact t_X10_lineFor_25 N Γ C b hE v1 v2 (0 : Int32) m_15 h
theorem c_X10_lineFor (N : Nat) (l : Launch) (hst : l.stackTraces = false) (w : Om) (v1 : Int32) (v2 : Int32) (m : Mem) (o : Int32 × Mem) (h : f_X10_lineFor N v1 v2 m = some o) : KI l yX10_lineFor cX10_lineFor 6 (some .int) 8 182 w [.ref (oa w 95), .int v1, .int v2] m o.1 o.2 := KI_of hst (by decide +kernel) RX10 rfl (Nat.le_of_ble_eq_true rfl) (fun Γ hw hl C hE => by
  subst hw; subst hl
  exact t_X10_lineFor N Γ C v1 v2 m o h hE)
def Ex_X10_appeal_73 (Γ : Gc) (cs : Nat) (b : Int32 × Int32 × Int32 × Int32 × Mem) : Prop := (∀ (y1 : Int32) (y2 : Int32) (y3 : Int32) (y4 : Int32) (m' : Mem), b = (y1, y2, y3, y4, m') → G Γ 6 cs m' 112 [(0, .ref (oa (gw Γ) 95)), (1, .int y1), (2, .int y2), (3, .int y3), (4, .int y4)] [])
set_option maxRecDepth 100000 in
set_option maxHeartbeats 4000000 in
theorem t_X10_appeal_73 (N : Nat) (Γ : Gc) (C : Cx Γ cX10_appeal 6 RX10 (rmK 3 67 0)) (rc : Int32 → Int32 → Int32 → Int32 → Int32 → Mem → Option (Int32 × Int32 × Int32 × Int32 × Mem)) (b : Int32 × Int32 × Int32 × Int32 × Mem) (hE : Ex_X10_appeal_73 Γ 0 b) (hrec : ∀ (v1 : Int32) (v2 : Int32) (v3 : Int32) (v4 : Int32) (v5 : Int32) (m : Mem) (b : Int32 × Int32 × Int32 × Int32 × Mem), rc v1 v2 v3 v4 v5 m = some b → Ex_X10_appeal_73 Γ 0 b → G Γ 6 0 m 73 [(0, .ref (oa (gw Γ) 95)), (1, .int v1), (2, .int v2), (3, .int v3), (4, .int v4), (5, .int v5)] []) (v1 : Int32) (v2 : Int32) (v3 : Int32) (v4 : Int32) (v5 : Int32) (m : Mem) (h : T_X10_appeal_73 N rc v1 v2 v3 v4 v5 m = some b) : G Γ 6 0 m 73 [(0, .ref (oa (gw Γ) 95)), (1, .int v1), (2, .int v2), (3, .int v3), (4, .int v4), (5, .int v5)] [] := by
  unfold T_X10_appeal_73 at h
  refine g_iload C dX10_appeal_73 5 rfl ?_
  refine g_aload_n C dX10_appeal_75 0 rfl rfl ?_
  refine g_getT (b := 96) (ci := 10) (j := 1) C dX10_appeal_76 rfl (by decide) rfl inT_X10 (by decide) k_506 rfl rfl rfl rfl ?_
  refine g_iconst (v := (1 : Int32)) C dX10_appeal_79 (by decide) ?_
  refine g_iald' (j := 1) C dX10_appeal_80 (okA_of rfl rfl (by decide)) (by decide) ?_
  refine g_icmp_ge (tgt := 112) C dX10_appeal_81 (by decide) (fun c_7 => ?_) (fun c_7 => ?_)
  · replace h := it_t c_7 h
    obtain rfl := Option.some.inj h
    refine g_sub [0, 1, 2, 3, 4] rfl ?_
    exact hE _ _ _ _ _ rfl
  · replace h := it_f c_7 h
    refine g_iload C dX10_appeal_84 4 rfl ?_
    refine g_iload C dX10_appeal_86 5 rfl ?_
    refine g_iload_n C dX10_appeal_88 1 rfl rfl ?_
    refine g_icmp_ne (tgt := 96) C dX10_appeal_89 (by decide) (fun c_6 => ?_) (fun c_6 => ?_)
    · replace h := it_f c_6 h
      refine g_aload_n C dX10_appeal_96 0 rfl rfl ?_
      refine g_iload C dX10_appeal_97 5 rfl ?_
      refine g_iload_n C dX10_appeal_99 2 rfl rfl ?_
      obtain ⟨r_5, m_5, hk_5, h⟩ := b2_some h
      refine g_vI (As := [.int v5, .int v2]) (a := 95) (ci := 10) C dX10_appeal_100 mf_X10_score k_601 rfl (by decide) ⟨by decide, by decide⟩ rfl rfl (Nat.le_of_ble_eq_true rfl) (by decide) rfl (c_X10_score N (gl Γ) C.2.2.2.2 (gw Γ) v5 v2 m _ hk_5) ?_
      refine g_iadd C dX10_appeal_103 ?_
      refine g_istore (lv' := [(4, .int (v4 + r_5)), (0, .ref (oa (gw Γ) 95)), (1, .int v1), (2, .int v2), (3, .int v3), (5, .int v5)]) C dX10_appeal_104 (by decide) rfl ?_
      refine g_iinc (q := 5) (v := v5 + (1 : Int32)) (lv' := [(5, .int (v5 + (1 : Int32))), (4, .int (v4 + r_5)), (0, .ref (oa (gw Γ) 95)), (1, .int v1), (2, .int v2), (3, .int v3)]) C dX10_appeal_106 rfl rfl (by decide) rfl ?_
      refine g_goto (tgt := 73) C dX10_appeal_109 (by decide) ?_
      refine g_sub [2, 3, 4, 5, 1, 0] rfl ?_
      exact hrec v1 v2 v3 (v4 + r_5) (v5 + (1 : Int32)) m_5 b h hE
    · replace h := it_t c_6 h
      refine g_iconst (v := (0 : Int32)) C dX10_appeal_92 (by decide) ?_
      refine g_goto (tgt := 103) C dX10_appeal_93 (by decide) ?_
      refine g_iadd C dX10_appeal_103 ?_
      refine g_istore (lv' := [(4, .int (v4 + (0 : Int32))), (0, .ref (oa (gw Γ) 95)), (1, .int v1), (2, .int v2), (3, .int v3), (5, .int v5)]) C dX10_appeal_104 (by decide) rfl ?_
      refine g_iinc (q := 5) (v := v5 + (1 : Int32)) (lv' := [(5, .int (v5 + (1 : Int32))), (4, .int (v4 + (0 : Int32))), (0, .ref (oa (gw Γ) 95)), (1, .int v1), (2, .int v2), (3, .int v3)]) C dX10_appeal_106 rfl rfl (by decide) rfl ?_
      refine g_goto (tgt := 73) C dX10_appeal_109 (by decide) ?_
      refine g_sub [2, 3, 4, 5, 1, 0] rfl ?_
      exact hrec v1 v2 v3 (v4 + (0 : Int32)) (v5 + (1 : Int32)) m b h hE
theorem lt_X10_appeal_73 (N : Nat) (Γ : Gc) (C : Cx Γ cX10_appeal 6 RX10 (rmK 3 67 0)) : ∀ (n : Nat) (v1 : Int32) (v2 : Int32) (v3 : Int32) (v4 : Int32) (v5 : Int32) (m : Mem) (b : Int32 × Int32 × Int32 × Int32 × Mem), L_X10_appeal_73 N n v1 v2 v3 v4 v5 m = some b → Ex_X10_appeal_73 Γ 0 b → G Γ 6 0 m 73 [(0, .ref (oa (gw Γ) 95)), (1, .int v1), (2, .int v2), (3, .int v3), (4, .int v4), (5, .int v5)] [] := by
  intro n
  induction n with
  | zero =>
    intro v1 v2 v3 v4 v5 m b h
    have h9 : (none : Option (Int32 × Int32 × Int32 × Int32 × Mem)) = some b := h
    cases h9
  | succ n ih => intro v1 v2 v3 v4 v5 m b h hE; exact t_X10_appeal_73 N Γ C (L_X10_appeal_73 N n) b hE ih v1 v2 v3 v4 v5 m h
set_option maxRecDepth 100000 in
set_option maxHeartbeats 4000000 in
theorem t_X10_appeal_138 (N : Nat) (Γ : Gc) (C : Cx Γ cX10_appeal 6 RX10 (rmK 3 67 0)) (b : Int32 × Mem) (hE : EZn Γ 6 cX10_appeal b) (v1 : Int32) (v2 : Int32) (v3 : Int32) (s0 : Int32) (m : Mem) (h : B_X10_appeal_138 N v1 v2 v3 s0 m = some b) : G Γ 6 0 m 138 [(0, .ref (oa (gw Γ) 95)), (1, .int v1), (2, .int v2), (3, .int v3)] [.int s0] := by
  unfold B_X10_appeal_138 at h
  refine g_iload_n C dX10_appeal_138 3 rfl rfl ?_
  refine g_aload_n C dX10_appeal_139 0 rfl rfl ?_
  refine g_getT (b := 96) (ci := 10) (j := 1) C dX10_appeal_140 rfl (by decide) rfl inT_X10 (by decide) k_506 rfl rfl rfl rfl ?_
  refine g_bipush (v := (6 : Int32)) C dX10_appeal_143 (by decide) ?_
  refine g_iald' (j := 6) C dX10_appeal_145 (okA_of rfl rfl (by decide)) (by decide) ?_
  refine g_imul C dX10_appeal_146 ?_
  refine g_icmp_gt (tgt := 152) C dX10_appeal_147 (by decide) (fun c_15 => ?_) (fun c_15 => ?_)
  · replace h := it_t c_15 h
    refine g_aload_n C dX10_appeal_152 0 rfl rfl ?_
    obtain ⟨m_10, hk_10, h⟩ := b1_some h
    refine g_vV (As := []) (a := 95) (ci := 10) C dX10_appeal_153 mf_X10_keeps k_641 rfl (by decide) ⟨by decide, by decide⟩ rfl rfl (Nat.le_of_ble_eq_true rfl) (by decide) rfl (c_X10_keeps N (gl Γ) C.2.2.2.2 (gw Γ)  m _ hk_10) ?_
    refine g_aload_n C dX10_appeal_156 0 rfl rfl ?_
    refine g_iload_n C dX10_appeal_157 1 rfl rfl ?_
    refine g_iload_n C dX10_appeal_158 2 rfl rfl ?_
    obtain ⟨m_11, hk_11, h⟩ := b1_some h
    refine g_vV (As := [.int v1, .int v2]) (a := 95) (ci := 10) C dX10_appeal_159 mf_X10_removes k_653 rfl (by decide) ⟨by decide, by decide⟩ rfl rfl (Nat.le_of_ble_eq_true rfl) (by decide) rfl (c_X10_removes N (gl Γ) C.2.2.2.2 (gw Γ) v1 v2 m_10 _ hk_11) ?_
    refine g_aload_n C dX10_appeal_162 0 rfl rfl ?_
    refine g_getT (b := 98) (ci := 10) (j := 3) C dX10_appeal_163 rfl (by decide) rfl inT_X10 (by decide) k_588 rfl rfl rfl rfl ?_
    refine g_iconst (v := (2 : Int32)) C dX10_appeal_166 (by decide) ?_
    refine g_iload_n C dX10_appeal_167 1 rfl rfl ?_
    refine g_iadd C dX10_appeal_168 ?_
    refine g_dup2 C dX10_appeal_169 rfl rfl ?_
    obtain ⟨g_12, h⟩ := gd_some h
    refine g_iald C dX10_appeal_170 (okA_of rfl rfl g_12) ?_
    refine g_iconst (v := (1 : Int32)) C dX10_appeal_171 (by decide) ?_
    refine g_iload_n C dX10_appeal_172 2 rfl rfl ?_
    refine g_ishl C dX10_appeal_173 ?_
    refine g_ior C dX10_appeal_174 ?_
    obtain ⟨m_13, e_13, h⟩ := wr_some h
    refine g_iast C dX10_appeal_175 (okA_of rfl rfl g_12) (G_m e_13 ?_)
    refine g_aload_n C dX10_appeal_176 0 rfl rfl ?_
    refine g_getT (b := 98) (ci := 10) (j := 3) C dX10_appeal_177 rfl (by decide) rfl inT_X10 (by decide) k_588 rfl rfl rfl rfl ?_
    refine g_iconst (v := (1 : Int32)) C dX10_appeal_180 (by decide) ?_
    refine g_dup2 C dX10_appeal_181 rfl rfl ?_
    refine g_iald' (j := 1) C dX10_appeal_182 (okA_of rfl rfl (by decide)) (by decide) ?_
    refine g_iconst (v := (1 : Int32)) C dX10_appeal_183 (by decide) ?_
    refine g_iload_n C dX10_appeal_184 2 rfl rfl ?_
    refine g_ishl C dX10_appeal_185 ?_
    refine g_ior C dX10_appeal_186 ?_
    obtain ⟨m_14, e_14, h⟩ := wr_some h
    refine g_iast' (j := 1) C dX10_appeal_187 (okA_of rfl rfl (by decide)) (by decide) (G_m e_14 ?_)
    refine g_iconst (v := (1 : Int32)) C dX10_appeal_188 (by decide) ?_
    obtain rfl := Option.some.inj h
    exact hE 189 _ (show isB (1 : Int32) = true by decide) dX10_appeal_189
  · replace h := it_f c_15 h
    refine g_iconst (v := (0 : Int32)) C dX10_appeal_150 (by decide) ?_
    obtain rfl := Option.some.inj h
    exact hE 151 _ (show isB (0 : Int32) = true by decide) dX10_appeal_151
set_option maxRecDepth 100000 in
set_option maxHeartbeats 4000000 in
theorem t_X10_appeal_55 (N : Nat) (Γ : Gc) (C : Cx Γ cX10_appeal 6 RX10 (rmK 3 67 0)) (b : Int32 × Mem) (hE : EZn Γ 6 cX10_appeal b) (v1 : Int32) (v2 : Int32) (v3 : Int32) (s0 : Int32) (m : Mem) (h : B_X10_appeal_55 N v1 v2 v3 s0 m = some b) : G Γ 6 0 m 55 [(0, .ref (oa (gw Γ) 95)), (1, .int v1), (2, .int v2), (3, .int v3)] [.int s0, .ref (oa (gw Γ) 95)] := by
  unfold B_X10_appeal_55 at h
  obtain ⟨m_4, e_4, h⟩ := wr_some h
  refine g_putI (ci := 10) (j := 0) C dX10_appeal_55 rfl (by decide) rfl inT_X10 (by decide) k_505 tyX10 tyX10_ok nmX10 rfl rfl rfl rfl rfl (G_m e_4 ?_)
  refine g_aload_n C dX10_appeal_58 0 rfl rfl ?_
  refine g_getI (ci := 10) (j := 0) C dX10_appeal_59 rfl (by decide) rfl inT_X10 (by decide) k_505 rfl rfl ?_
  refine g_if_le (tgt := 67) C dX10_appeal_62 (by decide) (fun c_17 => ?_) (fun c_17 => ?_)
  · replace h := it_t c_17 h
    refine g_iconst (v := (0 : Int32)) C dX10_appeal_67 (by decide) ?_
    refine g_istore (lv' := [(4, .int (0 : Int32)), (0, .ref (oa (gw Γ) 95)), (1, .int v1), (2, .int v2), (3, .int v3)]) C dX10_appeal_68 (by decide) rfl ?_
    refine g_iconst (v := (0 : Int32)) C dX10_appeal_70 (by decide) ?_
    refine g_istore (lv' := [(5, .int (0 : Int32)), (4, .int (0 : Int32)), (0, .ref (oa (gw Γ) 95)), (1, .int v1), (2, .int v2), (3, .int v3)]) C dX10_appeal_71 (by decide) rfl ?_
    obtain ⟨v1_8, v2_8, v3_8, v4_8, m_8, hx, h⟩ := l5_some h
    refine g_sub [2, 3, 4, 5, 1, 0] rfl ?_
    refine lt_X10_appeal_73 N Γ C N v1 v2 v3 (0 : Int32) (0 : Int32) m_4 _ hx ?_
    intro z1 z2 z3 z4 m9 e9
    cases e9
    refine g_iload_n C dX10_appeal_112 3 rfl rfl ?_
    refine g_aload_n C dX10_appeal_113 0 rfl rfl ?_
    refine g_iload_n C dX10_appeal_114 1 rfl rfl ?_
    refine g_iload_n C dX10_appeal_115 2 rfl rfl ?_
    obtain ⟨r_9, m_9, hk_9, h⟩ := b2_some h
    refine g_vI (As := [.int v1_8, .int v2_8]) (a := 95) (ci := 10) C dX10_appeal_116 mf_X10_score k_601 rfl (by decide) ⟨by decide, by decide⟩ rfl rfl (Nat.le_of_ble_eq_true rfl) (by decide) rfl (c_X10_score N (gl Γ) C.2.2.2.2 (gw Γ) v1_8 v2_8 m_8 _ hk_9) ?_
    refine g_imul C dX10_appeal_119 ?_
    refine g_iload C dX10_appeal_120 4 rfl ?_
    refine g_isub C dX10_appeal_122 ?_
    refine g_istore (lv' := [(5, .int ((v3_8 * r_9) - v4_8)), (0, .ref (oa (gw Γ) 95)), (1, .int v1_8), (2, .int v2_8), (3, .int v3_8), (4, .int v4_8)]) C dX10_appeal_123 (by decide) rfl ?_
    refine g_iload C dX10_appeal_125 0 rfl ?_
    refine g_if_ge (tgt := 136) C dX10_appeal_127 (by decide) (fun c_16 => ?_) (fun c_16 => ?_)
    · replace h := it_t c_16 h
      refine g_iload C dX10_appeal_136 0 rfl ?_
      refine g_sub [1, 2, 3, 4] rfl ?_
      exact t_X10_appeal_138 N Γ C b hE v1_8 v2_8 v3_8 ((v3_8 * r_9) - v4_8) m_9 h
    · replace h := it_f c_16 h
      refine g_iload C dX10_appeal_130 0 rfl ?_
      refine g_ineg C dX10_appeal_132 ?_
      refine g_goto (tgt := 138) C dX10_appeal_133 (by decide) ?_
      refine g_sub [1, 2, 3, 4] rfl ?_
      exact t_X10_appeal_138 N Γ C b hE v1_8 v2_8 v3_8 (-((v3_8 * r_9) - v4_8)) m_9 h
  · replace h := it_f c_17 h
    refine g_iconst (v := (0 : Int32)) C dX10_appeal_65 (by decide) ?_
    obtain rfl := Option.some.inj h
    exact hE 66 _ (show isB (0 : Int32) = true by decide) dX10_appeal_66
set_option maxRecDepth 100000 in
set_option maxHeartbeats 4000000 in
theorem t_X10_appeal_50 (N : Nat) (Γ : Gc) (C : Cx Γ cX10_appeal 6 RX10 (rmK 3 67 0)) (b : Int32 × Mem) (hE : EZn Γ 6 cX10_appeal b) (v1 : Int32) (v2 : Int32) (v3 : Int32) (m : Mem) (h : B_X10_appeal_50 N v1 v2 v3 m = some b) : G Γ 6 0 m 50 [(0, .ref (oa (gw Γ) 95)), (1, .int v1), (2, .int v2), (3, .int v3)] [.ref (oa (gw Γ) 95)] := by
  unfold B_X10_appeal_50 at h
  refine g_iconst (v := (3 : Int32)) C dX10_appeal_50 (by decide) ?_
  refine g_goto (tgt := 55) C dX10_appeal_51 (by decide) ?_
  refine g_sub [0, 1, 2, 3] rfl ?_
  exact t_X10_appeal_55 N Γ C b hE v1 v2 v3 (3 : Int32) m h
set_option maxRecDepth 100000 in
set_option maxHeartbeats 4000000 in
theorem t_X10_appeal (N : Nat) (Γ : Gc) (C : Cx Γ cX10_appeal 6 RX10 (rmK 3 67 0)) (v1 : Int32) (v2 : Int32) (m : Mem) (b : Int32 × Mem) (h : f_X10_appeal N v1 v2 m = some b) (hE : EZn Γ 6 cX10_appeal b) : G Γ 6 0 m 0 [(0, .ref (oa (gw Γ) 95)), (1, .int v1), (2, .int v2)] [] := by
  unfold f_X10_appeal at h
  refine g_aload_n C dX10_appeal_0 0 rfl rfl ?_
  refine g_iload_n C dX10_appeal_1 1 rfl rfl ?_
  refine g_iload_n C dX10_appeal_2 2 rfl rfl ?_
  obtain ⟨r_1, m_1, hk_1, h⟩ := b2_some h
  refine g_vI (As := [.int v1, .int v2]) (a := 95) (ci := 10) C dX10_appeal_3 mf_X10_areBoth k_633 rfl (by decide) ⟨by decide, by decide⟩ rfl rfl (Nat.le_of_ble_eq_true rfl) (by decide) rfl (c_X10_areBoth N (gl Γ) C.2.2.2.2 (gw Γ) v1 v2 m _ hk_1) ?_
  refine g_if_ne (tgt := 11) C dX10_appeal_6 (by decide) (fun c_22 => ?_) (fun c_22 => ?_)
  · replace h := it_f c_22 h
    refine g_aload_n C dX10_appeal_11 0 rfl rfl ?_
    refine g_iload_n C dX10_appeal_12 2 rfl rfl ?_
    obtain ⟨r_2, m_2, hk_2, h⟩ := b2_some h
    refine g_vI (As := [.int v2]) (a := 95) (ci := 10) C dX10_appeal_13 mf_X10_scoresOf k_707 rfl (by decide) ⟨by decide, by decide⟩ rfl rfl (Nat.le_of_ble_eq_true rfl) (by decide) rfl (c_X10_scoresOf N (gl Γ) C.2.2.2.2 (gw Γ) v2 m_1 _ hk_2) ?_
    refine g_iconst (v := (1 : Int32)) C dX10_appeal_16 (by decide) ?_
    refine g_isub C dX10_appeal_17 ?_
    refine g_istore_n (lv' := [(3, .int (r_2 - (1 : Int32))), (0, .ref (oa (gw Γ) 95)), (1, .int v1), (2, .int v2)]) C dX10_appeal_18 rfl (by decide) rfl ?_
    refine g_aload_n C dX10_appeal_19 1 rfl rfl ?_
    refine g_aload_n C dX10_appeal_20 1 rfl rfl ?_
    refine g_iload_n C dX10_appeal_21 2 rfl rfl ?_
    refine g_iload_n C dX10_appeal_22 3 rfl rfl ?_
    obtain ⟨r_3, m_3, hk_3, h⟩ := b2_some h
    refine g_vI (As := [.int v1, .int v2]) (a := 95) (ci := 10) C dX10_appeal_23 mf_X10_isScored k_699 rfl (by decide) ⟨by decide, by decide⟩ rfl rfl (Nat.le_of_ble_eq_true rfl) (by decide) rfl (c_X10_isScored N (gl Γ) C.2.2.2.2 (gw Γ) v1 v2 m_2 _ hk_3) ?_
    refine g_if_ne (tgt := 33) C dX10_appeal_26 (by decide) (fun c_21 => ?_) (fun c_21 => ?_)
    · replace h := it_f c_21 h
      refine g_iload_n C dX10_appeal_33 0 rfl rfl ?_
      refine g_if_eq (tgt := 50) C dX10_appeal_34 (by decide) (fun c_20 => ?_) (fun c_20 => ?_)
      · replace h := it_t c_20 h
        refine g_sub [1, 2, 3, 0] rfl ?_
        exact t_X10_appeal_50 N Γ C b hE v1 v2 (r_2 - (1 : Int32)) m_3 h
      · replace h := it_f c_20 h
        refine g_aload_n C dX10_appeal_37 1 rfl rfl ?_
        refine g_getT (b := 98) (ci := 10) (j := 3) C dX10_appeal_38 rfl (by decide) rfl inT_X10 (by decide) k_588 rfl rfl rfl rfl ?_
        refine g_iconst (v := (1 : Int32)) C dX10_appeal_41 (by decide) ?_
        refine g_iald' (j := 1) C dX10_appeal_42 (okA_of rfl rfl (by decide)) (by decide) ?_
        refine g_iload_n C dX10_appeal_43 3 rfl rfl ?_
        obtain ⟨r_18, m_18, hk_18, h⟩ := b2_some h
        refine g_sI (As := [.int (gI m_3 98 1), .int v2]) C dX10_appeal_44 mf_X10_has k_591 ⟨by decide, by decide⟩ rfl rfl (Nat.le_of_ble_eq_true rfl) (by decide) (c_X10_has N (gl Γ) C.2.2.2.2 (gw Γ) (gI m_3 98 1) v2 m_3 _ hk_18) ?_
        refine g_if_eq (tgt := 54) C dX10_appeal_47 (by decide) (fun c_19 => ?_) (fun c_19 => ?_)
        · replace h := it_t c_19 h
          refine g_iconst (v := (0 : Int32)) C dX10_appeal_54 (by decide) ?_
          refine g_sub [1, 2, 3, 0] rfl ?_
          exact t_X10_appeal_55 N Γ C b hE v1 v2 (r_2 - (1 : Int32)) (0 : Int32) m_18 h
        · replace h := it_f c_19 h
          refine g_sub [1, 2, 3, 0] rfl ?_
          exact t_X10_appeal_50 N Γ C b hE v1 v2 (r_2 - (1 : Int32)) m_18 h
    · replace h := it_t c_21 h
      refine g_iconst (v := (2 : Int32)) C dX10_appeal_29 (by decide) ?_
      refine g_goto (tgt := 55) C dX10_appeal_30 (by decide) ?_
      refine g_sub [1, 2, 3, 0] rfl ?_
      exact t_X10_appeal_55 N Γ C b hE v1 v2 (r_2 - (1 : Int32)) (2 : Int32) m_3 h
  · replace h := it_t c_22 h
    refine g_iconst (v := (0 : Int32)) C dX10_appeal_9 (by decide) ?_
    obtain rfl := Option.some.inj h
    exact hE 10 _ (show isB (0 : Int32) = true by decide) dX10_appeal_10
theorem c_X10_appeal (N : Nat) (l : Launch) (hst : l.stackTraces = false) (w : Om) (v1 : Int32) (v2 : Int32) (m : Mem) (o : Int32 × Mem) (h : f_X10_appeal N v1 v2 m = some o) : KI l yX10_appeal cX10_appeal 6 (some .boolean) 3 67 w [.ref (oa w 95), .int v1, .int v2] m o.1 o.2 := KZ_of hst (by decide +kernel) RX10 rfl (Nat.le_of_ble_eq_true rfl) (fun Γ hw hl C hE => by
  subst hw; subst hl
  exact t_X10_appeal N Γ C v1 v2 m o h hE)
