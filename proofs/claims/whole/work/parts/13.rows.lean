def Ex_X10_number_30 (Γ : Gc) (cs : Nat) (b : Int32 × Int32 × Int32 × Int32 × Int32 × Mem) : Prop := (∀ (y1 : Int32) (y2 : Int32) (y3 : Int32) (y4 : Int32) (y5 : Int32) (m' : Mem), b = (y1, y2, y3, y4, y5, m') → G Γ 6 cs m' 114 [(0, .ref (oa (gw Γ) 95)), (1, .int y1), (2, .int y2), (3, .int y3), (4, .int y4), (5, .int y5)] [])
set_option maxRecDepth 100000 in
set_option maxHeartbeats 4000000 in
theorem t_X10_number_99 (N : Nat) (Γ : Gc) (C : Cx Γ cX10_number 6 RX10 (rmK 1 22 0)) (rc : Int32 → Int32 → Int32 → Int32 → Int32 → Mem → Option (Int32 × Int32 × Int32 × Int32 × Int32 × Mem)) (b : Int32 × Int32 × Int32 × Int32 × Int32 × Mem) (hE : Ex_X10_number_30 Γ 0 b) (hrec : ∀ (v1 : Int32) (v2 : Int32) (v3 : Int32) (v4 : Int32) (v5 : Int32) (m : Mem) (b : Int32 × Int32 × Int32 × Int32 × Int32 × Mem), rc v1 v2 v3 v4 v5 m = some b → Ex_X10_number_30 Γ 0 b → G Γ 6 0 m 30 [(0, .ref (oa (gw Γ) 95)), (1, .int v1), (2, .int v2), (3, .int v3), (4, .int v4), (5, .int v5)] []) (v1 : Int32) (v2 : Int32) (v3 : Int32) (v4 : Int32) (s0 : Int32) (m : Mem) (h : B_X10_number_99 N rc v1 v2 v3 v4 s0 m = some b) : G Γ 6 0 m 99 [(0, .ref (oa (gw Γ) 95)), (1, .int v1), (2, .int v2), (3, .int v3), (4, .int v4)] [.int s0] := by
  unfold B_X10_number_99 at h
  refine g_istore (lv' := [(5, .int s0), (0, .ref (oa (gw Γ) 95)), (1, .int v1), (2, .int v2), (3, .int v3), (4, .int v4)]) C dX10_number_99 (by decide) rfl ?_
  refine g_aload_n C dX10_number_101 1 rfl rfl ?_
  refine g_dup C dX10_number_102 rfl ?_
  refine g_getI (ci := 10) (j := 8) C dX10_number_103 rfl (by decide) rfl inT_X10 (by decide) k_521 rfl rfl ?_
  refine g_iconst (v := (1 : Int32)) C dX10_number_106 (by decide) ?_
  refine g_iadd C dX10_number_107 ?_
  obtain ⟨m_5, e_5, h⟩ := wr_some h
  refine g_putI (ci := 10) (j := 8) C dX10_number_108 rfl (by decide) rfl inT_X10 (by decide) k_521 tyX10 tyX10_ok nmX10 rfl rfl rfl rfl rfl (G_m e_5 ?_)
  refine g_goto (tgt := 30) C dX10_number_111 (by decide) ?_
  refine g_sub [1, 2, 3, 4, 5, 0] rfl ?_
  exact hrec v1 v2 v3 v4 s0 m_5 b h hE
set_option maxRecDepth 100000 in
set_option maxHeartbeats 4000000 in
theorem t_X10_number_30 (N : Nat) (Γ : Gc) (C : Cx Γ cX10_number 6 RX10 (rmK 1 22 0)) (rc : Int32 → Int32 → Int32 → Int32 → Int32 → Mem → Option (Int32 × Int32 × Int32 × Int32 × Int32 × Mem)) (b : Int32 × Int32 × Int32 × Int32 × Int32 × Mem) (hE : Ex_X10_number_30 Γ 0 b) (hrec : ∀ (v1 : Int32) (v2 : Int32) (v3 : Int32) (v4 : Int32) (v5 : Int32) (m : Mem) (b : Int32 × Int32 × Int32 × Int32 × Int32 × Mem), rc v1 v2 v3 v4 v5 m = some b → Ex_X10_number_30 Γ 0 b → G Γ 6 0 m 30 [(0, .ref (oa (gw Γ) 95)), (1, .int v1), (2, .int v2), (3, .int v3), (4, .int v4), (5, .int v5)] []) (v1 : Int32) (v2 : Int32) (v3 : Int32) (v4 : Int32) (v5 : Int32) (m : Mem) (h : T_X10_number_30 N rc v1 v2 v3 v4 v5 m = some b) : G Γ 6 0 m 30 [(0, .ref (oa (gw Γ) 95)), (1, .int v1), (2, .int v2), (3, .int v3), (4, .int v4), (5, .int v5)] [] := by
  unfold T_X10_number_30 at h
  refine g_iload_n C dX10_number_30 3 rfl rfl ?_
  refine g_if_eq (tgt := 114) C dX10_number_31 (by decide) (fun c_10 => ?_) (fun c_10 => ?_)
  · replace h := it_t c_10 h
    obtain rfl := Option.some.inj h
    refine g_sub [0, 1, 2, 3, 4, 5] rfl ?_
    exact hE _ _ _ _ _ _ rfl
  · replace h := it_f c_10 h
    refine g_aload_n C dX10_number_34 0 rfl rfl ?_
    refine g_getI (ci := 10) (j := 8) C dX10_number_35 rfl (by decide) rfl inT_X10 (by decide) k_521 rfl rfl ?_
    refine g_aload_n C dX10_number_38 0 rfl rfl ?_
    refine g_getI (ci := 10) (j := 7) C dX10_number_39 rfl (by decide) rfl inT_X10 (by decide) k_512 rfl rfl ?_
    refine g_icmp_ge (tgt := 114) C dX10_number_42 (by decide) (fun c_9 => ?_) (fun c_9 => ?_)
    · replace h := it_t c_9 h
      obtain rfl := Option.some.inj h
      refine g_sub [0, 1, 2, 3, 4, 5] rfl ?_
      exact hE _ _ _ _ _ _ rfl
    · replace h := it_f c_9 h
      refine g_aload_n C dX10_number_45 0 rfl rfl ?_
      refine g_getT (b := 100) (ci := 10) (j := 6) C dX10_number_46 rfl (by decide) rfl inT_X10 (by decide) k_511 rfl rfl rfl rfl ?_
      refine g_aload_n C dX10_number_49 0 rfl rfl ?_
      refine g_getI (ci := 10) (j := 8) C dX10_number_50 rfl (by decide) rfl inT_X10 (by decide) k_521 rfl rfl ?_
      obtain ⟨g_3, h⟩ := gd_some h
      refine g_iald C dX10_number_53 (okA_of rfl rfl g_3) ?_
      refine g_bipush (v := (48 : Int32)) C dX10_number_54 (by decide) ?_
      refine g_bipush (v := (57 : Int32)) C dX10_number_56 (by decide) ?_
      obtain ⟨r_4, m_4, hk_4, h⟩ := b2_some h
      refine g_sI (As := [.int (gI m 100 (gI m 95 8).toNatClampNeg), .int (48 : Int32), .int (57 : Int32)]) C dX10_number_58 mf_X10_in k_507 ⟨by decide, by decide⟩ rfl rfl (Nat.le_of_ble_eq_true rfl) (by decide) (c_X10_in N (gl Γ) C.2.2.2.2 (gw Γ) (gI m 100 (gI m 95 8).toNatClampNeg) (48 : Int32) (57 : Int32) m _ hk_4) ?_
      refine g_if_eq (tgt := 114) C dX10_number_61 (by decide) (fun c_8 => ?_) (fun c_8 => ?_)
      · replace h := it_t c_8 h
        obtain rfl := Option.some.inj h
        refine g_sub [0, 1, 2, 3, 4, 5] rfl ?_
        exact hE _ _ _ _ _ _ rfl
      · replace h := it_f c_8 h
        refine g_aload_n C dX10_number_64 0 rfl rfl ?_
        refine g_getI (ci := 10) (j := 8) C dX10_number_65 rfl (by decide) rfl inT_X10 (by decide) k_521 rfl rfl ?_
        refine g_iload C dX10_number_68 4 rfl ?_
        refine g_isub C dX10_number_70 ?_
        refine g_bipush (v := (6 : Int32)) C dX10_number_71 (by decide) ?_
        refine g_icmp_ge (tgt := 97) C dX10_number_73 (by decide) (fun c_7 => ?_) (fun c_7 => ?_)
        · replace h := it_t c_7 h
          refine g_iload C dX10_number_97 5 rfl ?_
          refine g_sub [0, 1, 2, 3, 4] rfl ?_
          exact t_X10_number_99 N Γ C rc b hE hrec v1 v2 v3 v4 v5 m_4 h
        · replace h := it_f c_7 h
          refine g_bipush (v := (10 : Int32)) C dX10_number_76 (by decide) ?_
          refine g_iload C dX10_number_78 5 rfl ?_
          refine g_imul C dX10_number_80 ?_
          refine g_aload_n C dX10_number_81 0 rfl rfl ?_
          refine g_getT (b := 100) (ci := 10) (j := 6) C dX10_number_82 rfl (by decide) rfl inT_X10 (by decide) k_511 rfl rfl rfl rfl ?_
          refine g_aload_n C dX10_number_85 0 rfl rfl ?_
          refine g_getI (ci := 10) (j := 8) C dX10_number_86 rfl (by decide) rfl inT_X10 (by decide) k_521 rfl rfl ?_
          obtain ⟨g_6, h⟩ := gd_some h
          refine g_iald C dX10_number_89 (okA_of rfl rfl g_6) ?_
          refine g_iadd C dX10_number_90 ?_
          refine g_bipush (v := (48 : Int32)) C dX10_number_91 (by decide) ?_
          refine g_isub C dX10_number_93 ?_
          refine g_goto (tgt := 99) C dX10_number_94 (by decide) ?_
          refine g_sub [0, 1, 2, 3, 4] rfl ?_
          exact t_X10_number_99 N Γ C rc b hE hrec v1 v2 v3 v4 ((((10 : Int32) * v5) + (gI m_4 100 (gI m_4 95 8).toNatClampNeg)) - (48 : Int32)) m_4 h
theorem lt_X10_number_30 (N : Nat) (Γ : Gc) (C : Cx Γ cX10_number 6 RX10 (rmK 1 22 0)) : ∀ (n : Nat) (v1 : Int32) (v2 : Int32) (v3 : Int32) (v4 : Int32) (v5 : Int32) (m : Mem) (b : Int32 × Int32 × Int32 × Int32 × Int32 × Mem), L_X10_number_30 N n v1 v2 v3 v4 v5 m = some b → Ex_X10_number_30 Γ 0 b → G Γ 6 0 m 30 [(0, .ref (oa (gw Γ) 95)), (1, .int v1), (2, .int v2), (3, .int v3), (4, .int v4), (5, .int v5)] [] := by
  intro n
  induction n with
  | zero =>
    intro v1 v2 v3 v4 v5 m b h
    have h9 : (none : Option (Int32 × Int32 × Int32 × Int32 × Int32 × Mem)) = some b := h
    cases h9
  | succ n ih => intro v1 v2 v3 v4 v5 m b h hE; exact t_X10_number_30 N Γ C (L_X10_number_30 N n) b hE ih v1 v2 v3 v4 v5 m h
set_option maxRecDepth 100000 in
set_option maxHeartbeats 4000000 in
theorem t_X10_number_157 (N : Nat) (Γ : Gc) (C : Cx Γ cX10_number 6 RX10 (rmK 1 22 0)) (b : Int32 × Mem) (hE : EIn Γ 6 cX10_number b) (v5 : Int32) (m : Mem) (h : B_X10_number_157 N v5 m = some b) : G Γ 6 0 m 157 [(0, .ref (oa (gw Γ) 95)), (5, .int v5)] [] := by
  unfold B_X10_number_157 at h
  refine g_aload_n C dX10_number_157 0 rfl rfl ?_
  refine g_getI (ci := 10) (j := 11) C dX10_number_158 rfl (by decide) rfl inT_X10 (by decide) k_522 rfl rfl ?_
  refine g_if_eq (tgt := 168) C dX10_number_161 (by decide) (fun c_13 => ?_) (fun c_13 => ?_)
  · replace h := it_t c_13 h
    refine g_iload C dX10_number_168 1 rfl ?_
    obtain rfl := Option.some.inj h
    exact hE 170 _ dX10_number_170
  · replace h := it_f c_13 h
    refine g_iconst (v := (0 : Int32)) C dX10_number_164 (by decide) ?_
    refine g_goto (tgt := 170) C dX10_number_165 (by decide) ?_
    obtain rfl := Option.some.inj h
    exact hE 170 _ dX10_number_170
set_option maxRecDepth 100000 in
set_option maxHeartbeats 4000000 in
theorem t_X10_number_130 (N : Nat) (Γ : Gc) (C : Cx Γ cX10_number 6 RX10 (rmK 1 22 0)) (b : Int32 × Mem) (hE : EIn Γ 6 cX10_number b) (v4 : Int32) (v5 : Int32) (m : Mem) (h : B_X10_number_130 N v4 v5 m = some b) : G Γ 6 0 m 130 [(0, .ref (oa (gw Γ) 95)), (4, .int v4), (5, .int v5)] [] := by
  unfold B_X10_number_130 at h
  refine g_aload_n C dX10_number_130 0 rfl rfl ?_
  refine g_iconst (v := (1 : Int32)) C dX10_number_131 (by decide) ?_
  refine g_iload C dX10_number_132 1 rfl ?_
  obtain ⟨m_12, hk_12, h⟩ := b1_some h
  refine g_vV (As := [.int (1 : Int32), .int v4]) (a := 95) (ci := 10) C dX10_number_134 mf_X10_wrong k_536 rfl (by decide) ⟨by decide, by decide⟩ rfl rfl (Nat.le_of_ble_eq_true rfl) (by decide) rfl (c_X10_wrong N (gl Γ) C.2.2.2.2 (gw Γ) (1 : Int32) v4 m _ hk_12) ?_
  refine g_goto (tgt := 157) C dX10_number_137 (by decide) ?_
  refine g_sub [0, 2] rfl ?_
  exact t_X10_number_157 N Γ C b hE v5 m_12 h
set_option maxRecDepth 100000 in
set_option maxHeartbeats 4000000 in
theorem t_X10_number_114 (N : Nat) (Γ : Gc) (C : Cx Γ cX10_number 6 RX10 (rmK 1 22 0)) (b : Int32 × Mem) (hE : EIn Γ 6 cX10_number b) (v1 : Int32) (v2 : Int32) (v3 : Int32) (v4 : Int32) (v5 : Int32) (m : Mem) (h : B_X10_number_114 N v1 v2 v3 v4 v5 m = some b) : G Γ 6 0 m 114 [(0, .ref (oa (gw Γ) 95)), (1, .int v1), (2, .int v2), (3, .int v3), (4, .int v4), (5, .int v5)] [] := by
  unfold B_X10_number_114 at h
  refine g_iload_n C dX10_number_114 3 rfl rfl ?_
  refine g_if_eq (tgt := 130) C dX10_number_115 (by decide) (fun c_18 => ?_) (fun c_18 => ?_)
  · replace h := it_t c_18 h
    refine g_sub [0, 4, 5] rfl ?_
    exact t_X10_number_130 N Γ C b hE v4 v5 m h
  · replace h := it_f c_18 h
    refine g_aload_n C dX10_number_118 0 rfl rfl ?_
    refine g_getI (ci := 10) (j := 8) C dX10_number_119 rfl (by decide) rfl inT_X10 (by decide) k_521 rfl rfl ?_
    refine g_iload C dX10_number_122 4 rfl ?_
    refine g_isub C dX10_number_124 ?_
    refine g_bipush (v := (6 : Int32)) C dX10_number_125 (by decide) ?_
    refine g_icmp_le (tgt := 140) C dX10_number_127 (by decide) (fun c_17 => ?_) (fun c_17 => ?_)
    · replace h := it_t c_17 h
      refine g_iload C dX10_number_140 5 rfl ?_
      refine g_iload_n C dX10_number_142 1 rfl rfl ?_
      refine g_iload_n C dX10_number_143 2 rfl rfl ?_
      obtain ⟨r_14, m_14, hk_14, h⟩ := b2_some h
      refine g_sI (As := [.int v5, .int v1, .int v2]) C dX10_number_144 mf_X10_in k_507 ⟨by decide, by decide⟩ rfl rfl (Nat.le_of_ble_eq_true rfl) (by decide) (c_X10_in N (gl Γ) C.2.2.2.2 (gw Γ) v5 v1 v2 m _ hk_14) ?_
      refine g_if_ne (tgt := 157) C dX10_number_147 (by decide) (fun c_16 => ?_) (fun c_16 => ?_)
      · replace h := it_f c_16 h
        refine g_sub [0, 5] rfl ?_
        exact t_X10_number_157 N Γ C b hE v5 m_14 h
      · replace h := it_t c_16 h
        refine g_aload_n C dX10_number_150 0 rfl rfl ?_
        refine g_iconst (v := (2 : Int32)) C dX10_number_151 (by decide) ?_
        refine g_iload C dX10_number_152 4 rfl ?_
        obtain ⟨m_15, hk_15, h⟩ := b1_some h
        refine g_vV (As := [.int (2 : Int32), .int v4]) (a := 95) (ci := 10) C dX10_number_154 mf_X10_wrong k_536 rfl (by decide) ⟨by decide, by decide⟩ rfl rfl (Nat.le_of_ble_eq_true rfl) (by decide) rfl (c_X10_wrong N (gl Γ) C.2.2.2.2 (gw Γ) (2 : Int32) v4 m_14 _ hk_15) ?_
        refine g_sub [0, 5] rfl ?_
        exact t_X10_number_157 N Γ C b hE v5 m_15 h
    · replace h := it_f c_17 h
      refine g_sub [0, 4, 5] rfl ?_
      exact t_X10_number_130 N Γ C b hE v4 v5 m h
set_option maxRecDepth 100000 in
set_option maxHeartbeats 4000000 in
theorem t_X10_number (N : Nat) (Γ : Gc) (C : Cx Γ cX10_number 6 RX10 (rmK 1 22 0)) (v1 : Int32) (v2 : Int32) (m : Mem) (b : Int32 × Mem) (h : f_X10_number N v1 v2 m = some b) (hE : EIn Γ 6 cX10_number b) : G Γ 6 0 m 0 [(0, .ref (oa (gw Γ) 95)), (1, .int v1), (2, .int v2)] [] := by
  unfold f_X10_number at h
  refine g_aload_n C dX10_number_0 0 rfl rfl ?_
  refine g_getI (ci := 10) (j := 11) C dX10_number_1 rfl (by decide) rfl inT_X10 (by decide) k_522 rfl rfl ?_
  refine g_if_eq (tgt := 9) C dX10_number_4 (by decide) (fun c_19 => ?_) (fun c_19 => ?_)
  · replace h := it_t c_19 h
    refine g_aload_n C dX10_number_9 0 rfl rfl ?_
    obtain ⟨r_1, m_1, hk_1, h⟩ := b2_some h
    refine g_vI (As := []) (a := 95) (ci := 10) C dX10_number_10 mf_X10_here k_532 rfl (by decide) ⟨by decide, by decide⟩ rfl rfl (Nat.le_of_ble_eq_true rfl) (by decide) rfl (c_X10_here N (gl Γ) C.2.2.2.2 (gw Γ)  m _ hk_1) ?_
    refine g_bipush (v := (48 : Int32)) C dX10_number_13 (by decide) ?_
    refine g_bipush (v := (57 : Int32)) C dX10_number_15 (by decide) ?_
    obtain ⟨r_2, m_2, hk_2, h⟩ := b2_some h
    refine g_sI (As := [.int r_1, .int (48 : Int32), .int (57 : Int32)]) C dX10_number_17 mf_X10_in k_507 ⟨by decide, by decide⟩ rfl rfl (Nat.le_of_ble_eq_true rfl) (by decide) (c_X10_in N (gl Γ) C.2.2.2.2 (gw Γ) r_1 (48 : Int32) (57 : Int32) m_1 _ hk_2) ?_
    refine g_istore_n (lv' := [(3, .int r_2), (0, .ref (oa (gw Γ) 95)), (1, .int v1), (2, .int v2)]) C dX10_number_20 rfl (by decide) rfl ?_
    refine g_aload_n C dX10_number_21 1 rfl rfl ?_
    refine g_getI (ci := 10) (j := 8) C dX10_number_22 rfl (by decide) rfl inT_X10 (by decide) k_521 rfl rfl ?_
    refine g_istore (lv' := [(4, .int (gI m_2 95 8)), (3, .int r_2), (0, .ref (oa (gw Γ) 95)), (1, .int v1), (2, .int v2)]) C dX10_number_25 (by decide) rfl ?_
    refine g_iconst (v := (0 : Int32)) C dX10_number_27 (by decide) ?_
    refine g_istore (lv' := [(5, .int (0 : Int32)), (4, .int (gI m_2 95 8)), (3, .int r_2), (0, .ref (oa (gw Γ) 95)), (1, .int v1), (2, .int v2)]) C dX10_number_28 (by decide) rfl ?_
    obtain ⟨v1_11, v2_11, v3_11, v4_11, v5_11, m_11, hx, h⟩ := l6_some h
    refine g_sub [3, 4, 5, 2, 1, 0] rfl ?_
    refine lt_X10_number_30 N Γ C N v1 v2 r_2 (gI m_2 95 8) (0 : Int32) m_2 _ hx ?_
    intro z1 z2 z3 z4 z5 m9 e9
    cases e9
    refine g_sub [0, 1, 2, 3, 4, 5] rfl ?_
    exact t_X10_number_114 N Γ C b hE v1_11 v2_11 v3_11 v4_11 v5_11 m_11 h
  · replace h := it_f c_19 h
    refine g_iconst (v := (0 : Int32)) C dX10_number_7 (by decide) ?_
    obtain rfl := Option.some.inj h
    exact hE 8 _ dX10_number_8
theorem c_X10_number (N : Nat) (l : Launch) (hst : l.stackTraces = false) (w : Om) (v1 : Int32) (v2 : Int32) (m : Mem) (o : Int32 × Mem) (h : f_X10_number N v1 v2 m = some o) : KI l yX10_number cX10_number 6 (some .int) 1 22 w [.ref (oa w 95), .int v1, .int v2] m o.1 o.2 := KI_of hst (by decide +kernel) RX10 rfl (Nat.le_of_ble_eq_true rfl) (fun Γ hw hl C hE => by
  subst hw; subst hl
  exact t_X10_number N Γ C v1 v2 m o h hE)
set_option maxRecDepth 100000 in
set_option maxHeartbeats 4000000 in
theorem t_X10_takes (N : Nat) (Γ : Gc) (C : Cx Γ cX10_takes 3 RX10 (rmK 3 67 0)) (v1 : Int64) (m : Mem) (b : Int32 × Mem) (h : f_X10_takes N v1 m = some b) (hE : EZn Γ 3 cX10_takes b) : G Γ 3 0 m 0 [(0, .ref (oa (gw Γ) 95)), (1, .long v1)] [] := by
  unfold f_X10_takes at h
  refine g_aload_n C dX10_takes_0 0 rfl rfl ?_
  refine g_getI (ci := 10) (j := 11) C dX10_takes_1 rfl (by decide) rfl inT_X10 (by decide) k_522 rfl rfl ?_
  refine g_if_ne (tgt := 24) C dX10_takes_4 (by decide) (fun c_7 => ?_) (fun c_7 => ?_)
  · replace h := it_f c_7 h
    refine g_iconst (v := (0 : Int32)) C dX10_takes_24 (by decide) ?_
    obtain rfl := Option.some.inj h
    exact hE 25 _ (show isB (0 : Int32) = true by decide) dX10_takes_25
  · replace h := it_t c_7 h
    refine g_aload_n C dX10_takes_7 0 rfl rfl ?_
    obtain ⟨r_1, m_1, hk_1, h⟩ := b2_some h
    refine g_vI (As := []) (a := 95) (ci := 10) C dX10_takes_8 mf_X10_here k_532 rfl (by decide) ⟨by decide, by decide⟩ rfl rfl (Nat.le_of_ble_eq_true rfl) (by decide) rfl (c_X10_here N (gl Γ) C.2.2.2.2 (gw Γ)  m _ hk_1) ?_
    refine g_iconst (v := (-1 : Int32)) C dX10_takes_11 (by decide) ?_
    refine g_icmp_eq (tgt := 24) C dX10_takes_12 (by decide) (fun c_6 => ?_) (fun c_6 => ?_)
    · replace h := it_t c_6 h
      refine g_iconst (v := (0 : Int32)) C dX10_takes_24 (by decide) ?_
      obtain rfl := Option.some.inj h
      exact hE 25 _ (show isB (0 : Int32) = true by decide) dX10_takes_25
    · replace h := it_f c_6 h
      refine g_aload_n C dX10_takes_15 0 rfl rfl ?_
      obtain ⟨r_2, m_2, hk_2, h⟩ := b2_some h
      refine g_vL (As := []) (a := 95) (ci := 10) C dX10_takes_16 mf_X10_word k_540 rfl (by decide) ⟨by decide, by decide⟩ rfl rfl (Nat.le_of_ble_eq_true rfl) (by decide) rfl (c_X10_word N (gl Γ) C.2.2.2.2 (gw Γ)  m_1 _ hk_2) ?_
      refine g_lload_n C dX10_takes_19 1 rfl rfl ?_
      refine g_lcmp C dX10_takes_20 ?_
      refine g_if_eq (tgt := 26) C dX10_takes_21 (by decide) (fun c_5 => ?_) (fun c_5 => ?_)
      · replace h := it_t c_5 h
        refine g_aload_n C dX10_takes_26 0 rfl rfl ?_
        refine g_aload_n C dX10_takes_27 0 rfl rfl ?_
        obtain ⟨r_3, m_3, hk_3, h⟩ := b2_some h
        refine g_vI (As := []) (a := 95) (ci := 10) C dX10_takes_28 mf_X10_wordEnd k_525 rfl (by decide) ⟨by decide, by decide⟩ rfl rfl (Nat.le_of_ble_eq_true rfl) (by decide) rfl (c_X10_wordEnd N (gl Γ) C.2.2.2.2 (gw Γ)  m_2 _ hk_3) ?_
        obtain ⟨m_4, e_4, h⟩ := wr_some h
        refine g_putI (ci := 10) (j := 8) C dX10_takes_31 rfl (by decide) rfl inT_X10 (by decide) k_521 tyX10 tyX10_ok nmX10 rfl rfl rfl rfl rfl (G_m e_4 ?_)
        refine g_iconst (v := (1 : Int32)) C dX10_takes_34 (by decide) ?_
        obtain rfl := Option.some.inj h
        exact hE 35 _ (show isB (1 : Int32) = true by decide) dX10_takes_35
      · replace h := it_f c_5 h
        refine g_iconst (v := (0 : Int32)) C dX10_takes_24 (by decide) ?_
        obtain rfl := Option.some.inj h
        exact hE 25 _ (show isB (0 : Int32) = true by decide) dX10_takes_25
theorem c_X10_takes (N : Nat) (l : Launch) (hst : l.stackTraces = false) (w : Om) (v1 : Int64) (m : Mem) (o : Int32 × Mem) (h : f_X10_takes N v1 m = some o) : KI l yX10_takes cX10_takes 3 (some .boolean) 3 67 w [.ref (oa w 95), .long v1] m o.1 o.2 := KZ_of hst (by decide +kernel) RX10 rfl (Nat.le_of_ble_eq_true rfl) (fun Γ hw hl C hE => by
  subst hw; subst hl
  exact t_X10_takes N Γ C v1 m o h hE)
set_option maxRecDepth 100000 in
set_option maxHeartbeats 4000000 in
theorem t_X10_adds (N : Nat) (Γ : Gc) (C : Cx Γ cX10_adds 3 RX10 (rmK 2 43 0)) (v1 : Int32) (v2 : Int32) (m : Mem) (b : Int32 × Mem) (h : f_X10_adds N v1 v2 m = some b) (hE : EZn Γ 3 cX10_adds b) : G Γ 3 0 m 0 [(0, .ref (oa (gw Γ) 95)), (1, .int v1), (2, .int v2)] [] := by
  unfold f_X10_adds at h
  refine g_aload_n C dX10_adds_0 0 rfl rfl ?_
  refine g_getT (b := 97) (ci := 10) (j := 2) C dX10_adds_1 rfl (by decide) rfl inT_X10 (by decide) k_544 rfl rfl rfl rfl ?_
  refine g_iload_n C dX10_adds_4 1 rfl rfl ?_
  obtain ⟨g_1, h⟩ := gd_some h
  refine g_iald C dX10_adds_5 (okA_of rfl rfl g_1) ?_
  refine g_iload_n C dX10_adds_6 2 rfl rfl ?_
  refine g_icmp_ne (tgt := 21) C dX10_adds_7 (by decide) (fun c_5 => ?_) (fun c_5 => ?_)
  · replace h := it_f c_5 h
    refine g_aload_n C dX10_adds_21 0 rfl rfl ?_
    refine g_aload_n C dX10_adds_22 0 rfl rfl ?_
    obtain ⟨r_2, m_2, hk_2, h⟩ := b2_some h
    refine g_vI (As := []) (a := 95) (ci := 10) C dX10_adds_23 mf_X10_wordEnd k_525 rfl (by decide) ⟨by decide, by decide⟩ rfl rfl (Nat.le_of_ble_eq_true rfl) (by decide) rfl (c_X10_wordEnd N (gl Γ) C.2.2.2.2 (gw Γ)  m _ hk_2) ?_
    obtain ⟨m_3, e_3, h⟩ := wr_some h
    refine g_putI (ci := 10) (j := 8) C dX10_adds_26 rfl (by decide) rfl inT_X10 (by decide) k_521 tyX10 tyX10_ok nmX10 rfl rfl rfl rfl rfl (G_m e_3 ?_)
    refine g_iconst (v := (1 : Int32)) C dX10_adds_29 (by decide) ?_
    obtain rfl := Option.some.inj h
    exact hE 30 _ (show isB (1 : Int32) = true by decide) dX10_adds_30
  · replace h := it_t c_5 h
    refine g_aload_n C dX10_adds_10 0 rfl rfl ?_
    refine g_iconst (v := (3 : Int32)) C dX10_adds_11 (by decide) ?_
    refine g_aload_n C dX10_adds_12 0 rfl rfl ?_
    refine g_getI (ci := 10) (j := 8) C dX10_adds_13 rfl (by decide) rfl inT_X10 (by decide) k_521 rfl rfl ?_
    obtain ⟨m_4, hk_4, h⟩ := b1_some h
    refine g_vV (As := [.int (3 : Int32), .int (gI m 95 8)]) (a := 95) (ci := 10) C dX10_adds_16 mf_X10_wrong k_536 rfl (by decide) ⟨by decide, by decide⟩ rfl rfl (Nat.le_of_ble_eq_true rfl) (by decide) rfl (c_X10_wrong N (gl Γ) C.2.2.2.2 (gw Γ) (3 : Int32) (gI m 95 8) m _ hk_4) ?_
    refine g_iconst (v := (0 : Int32)) C dX10_adds_19 (by decide) ?_
    obtain rfl := Option.some.inj h
    exact hE 20 _ (show isB (0 : Int32) = true by decide) dX10_adds_20
theorem c_X10_adds (N : Nat) (l : Launch) (hst : l.stackTraces = false) (w : Om) (v1 : Int32) (v2 : Int32) (m : Mem) (o : Int32 × Mem) (h : f_X10_adds N v1 v2 m = some o) : KI l yX10_adds cX10_adds 3 (some .boolean) 2 43 w [.ref (oa w 95), .int v1, .int v2] m o.1 o.2 := KZ_of hst (by decide +kernel) RX10 rfl (Nat.le_of_ble_eq_true rfl) (fun Γ hw hl C hE => by
  subst hw; subst hl
  exact t_X10_adds N Γ C v1 v2 m o h hE)
set_option maxRecDepth 100000 in
set_option maxHeartbeats 4000000 in
theorem t_X10_panelLine (N : Nat) (Γ : Gc) (C : Cx Γ cX10_panelLine 1 RX10 (rmK 3 65 0))  (m : Mem) (b : Mem) (h : f_X10_panelLine N  m = some b) (hE : EVn Γ 1 cX10_panelLine b) : G Γ 1 0 m 0 [(0, .ref (oa (gw Γ) 95))] [] := by
  unfold f_X10_panelLine at h
  refine g_aload_n C dX10_panelLine_0 0 rfl rfl ?_
  refine g_iconst (v := (0 : Int32)) C dX10_panelLine_1 (by decide) ?_
  refine g_iconst (v := (4 : Int32)) C dX10_panelLine_2 (by decide) ?_
  obtain ⟨r_1, m_1, hk_1, h⟩ := b2_some h
  refine g_vI (As := [.int (0 : Int32), .int (4 : Int32)]) (a := 95) (ci := 10) C dX10_panelLine_3 mf_X10_adds k_545 rfl (by decide) ⟨by decide, by decide⟩ rfl rfl (Nat.le_of_ble_eq_true rfl) (by decide) rfl (c_X10_adds N (gl Γ) C.2.2.2.2 (gw Γ) (0 : Int32) (4 : Int32) m _ hk_1) ?_
  refine g_if_eq (tgt := 40) C dX10_panelLine_6 (by decide) (fun c_6 => ?_) (fun c_6 => ?_)
  · replace h := it_t c_6 h
    obtain rfl := Option.some.inj h
    exact hE 40 _ dX10_panelLine_40
  · replace h := it_f c_6 h
    refine g_aload_n C dX10_panelLine_9 0 rfl rfl ?_
    refine g_getT (b := 97) (ci := 10) (j := 2) C dX10_panelLine_10 rfl (by decide) rfl inT_X10 (by decide) k_544 rfl rfl rfl rfl ?_
    refine g_bipush (v := (7 : Int32)) C dX10_panelLine_13 (by decide) ?_
    refine g_aload_n C dX10_panelLine_15 0 rfl rfl ?_
    refine g_getT (b := 97) (ci := 10) (j := 2) C dX10_panelLine_16 rfl (by decide) rfl inT_X10 (by decide) k_544 rfl rfl rfl rfl ?_
    refine g_iconst (v := (0 : Int32)) C dX10_panelLine_19 (by decide) ?_
    refine g_iald' (j := 0) C dX10_panelLine_20 (okA_of rfl rfl (by decide)) (by decide) ?_
    refine g_iadd C dX10_panelLine_21 ?_
    refine g_aload_n C dX10_panelLine_22 0 rfl rfl ?_
    refine g_iconst (v := (0 : Int32)) C dX10_panelLine_23 (by decide) ?_
    refine g_ldc (v := (100000 : Int32)) C dX10_panelLine_24 k_549 ?_
    obtain ⟨r_2, m_2, hk_2, h⟩ := b2_some h
    refine g_vI (As := [.int (0 : Int32), .int (100000 : Int32)]) (a := 95) (ci := 10) C dX10_panelLine_26 mf_X10_number k_550 rfl (by decide) ⟨by decide, by decide⟩ rfl rfl (Nat.le_of_ble_eq_true rfl) (by decide) rfl (c_X10_number N (gl Γ) C.2.2.2.2 (gw Γ) (0 : Int32) (100000 : Int32) m_1 _ hk_2) ?_
    obtain ⟨g_3, h⟩ := gd_some h
    obtain ⟨m_4, e_4, h⟩ := wr_some h
    refine g_iast C dX10_panelLine_29 (okA_of rfl rfl g_3) (G_m e_4 ?_)
    refine g_aload_n C dX10_panelLine_30 0 rfl rfl ?_
    refine g_getT (b := 97) (ci := 10) (j := 2) C dX10_panelLine_31 rfl (by decide) rfl inT_X10 (by decide) k_544 rfl rfl rfl rfl ?_
    refine g_iconst (v := (0 : Int32)) C dX10_panelLine_34 (by decide) ?_
    refine g_dup2 C dX10_panelLine_35 rfl rfl ?_
    refine g_iald' (j := 0) C dX10_panelLine_36 (okA_of rfl rfl (by decide)) (by decide) ?_
    refine g_iconst (v := (1 : Int32)) C dX10_panelLine_37 (by decide) ?_
    refine g_iadd C dX10_panelLine_38 ?_
    obtain ⟨m_5, e_5, h⟩ := wr_some h
    refine g_iast' (j := 0) C dX10_panelLine_39 (okA_of rfl rfl (by decide)) (by decide) (G_m e_5 ?_)
    obtain rfl := Option.some.inj h
    exact hE 40 _ dX10_panelLine_40
theorem c_X10_panelLine (N : Nat) (l : Launch) (hst : l.stackTraces = false) (w : Om)  (m : Mem) (o : Mem) (h : f_X10_panelLine N  m = some o) : KV l yX10_panelLine cX10_panelLine 1 none 3 65 w [.ref (oa w 95)] m o := KV_of hst (by decide +kernel) RX10 rfl (Nat.le_of_ble_eq_true rfl) (fun Γ hw hl C hE => by
  subst hw; subst hl
  exact t_X10_panelLine N Γ C  m o h hE)
def Ex_X10_reviewerLine_110 (Γ : Gc) (cs : Nat) (b : Int32 × Int32 × Mem) : Prop := (∀ (y1 : Int32) (y2 : Int32) (m' : Mem), b = (y1, y2, m') → G Γ 3 cs m' 146 [(0, .ref (oa (gw Γ) 95)), (1, .int y1), (2, .int y2)] [])
set_option maxRecDepth 100000 in
set_option maxHeartbeats 4000000 in
theorem t_X10_reviewerLine_110 (N : Nat) (Γ : Gc) (C : Cx Γ cX10_reviewerLine 3 RX10 (rmK 4 89 0)) (rc : Int32 → Int32 → Mem → Option (Int32 × Int32 × Mem)) (b : Int32 × Int32 × Mem) (hE : Ex_X10_reviewerLine_110 Γ 0 b) (hrec : ∀ (v1 : Int32) (v2 : Int32) (m : Mem) (b : Int32 × Int32 × Mem), rc v1 v2 m = some b → Ex_X10_reviewerLine_110 Γ 0 b → G Γ 3 0 m 110 [(0, .ref (oa (gw Γ) 95)), (1, .int v1), (2, .int v2)] []) (v1 : Int32) (v2 : Int32) (m : Mem) (h : T_X10_reviewerLine_110 N rc v1 v2 m = some b) : G Γ 3 0 m 110 [(0, .ref (oa (gw Γ) 95)), (1, .int v1), (2, .int v2)] [] := by
  unfold T_X10_reviewerLine_110 at h
  refine g_aload_n C dX10_reviewerLine_110 0 rfl rfl ?_
  refine g_getI (ci := 10) (j := 11) C dX10_reviewerLine_111 rfl (by decide) rfl inT_X10 (by decide) k_522 rfl rfl ?_
  refine g_if_ne (tgt := 146) C dX10_reviewerLine_114 (by decide) (fun c_16 => ?_) (fun c_16 => ?_)
  · replace h := it_f c_16 h
    obtain rfl := Option.some.inj h
    refine g_sub [0, 1, 2] rfl ?_
    exact hE _ _ _ rfl
  · replace h := it_t c_16 h
    refine g_aload_n C dX10_reviewerLine_117 0 rfl rfl ?_
    obtain ⟨r_12, m_12, hk_12, h⟩ := b2_some h
    refine g_vI (As := []) (a := 95) (ci := 10) C dX10_reviewerLine_118 mf_X10_here k_532 rfl (by decide) ⟨by decide, by decide⟩ rfl rfl (Nat.le_of_ble_eq_true rfl) (by decide) rfl (c_X10_here N (gl Γ) C.2.2.2.2 (gw Γ)  m _ hk_12) ?_
    refine g_bipush (v := (48 : Int32)) C dX10_reviewerLine_121 (by decide) ?_
    refine g_bipush (v := (57 : Int32)) C dX10_reviewerLine_123 (by decide) ?_
    obtain ⟨r_13, m_13, hk_13, h⟩ := b2_some h
    refine g_sI (As := [.int r_12, .int (48 : Int32), .int (57 : Int32)]) C dX10_reviewerLine_125 mf_X10_in k_507 ⟨by decide, by decide⟩ rfl rfl (Nat.le_of_ble_eq_true rfl) (by decide) (c_X10_in N (gl Γ) C.2.2.2.2 (gw Γ) r_12 (48 : Int32) (57 : Int32) m_12 _ hk_13) ?_
    refine g_if_eq (tgt := 146) C dX10_reviewerLine_128 (by decide) (fun c_15 => ?_) (fun c_15 => ?_)
    · replace h := it_t c_15 h
      obtain rfl := Option.some.inj h
      refine g_sub [0, 1, 2] rfl ?_
      exact hE _ _ _ rfl
    · replace h := it_f c_15 h
      refine g_iload_n C dX10_reviewerLine_131 2 rfl rfl ?_
      refine g_iconst (v := (1 : Int32)) C dX10_reviewerLine_132 (by decide) ?_
      refine g_aload_n C dX10_reviewerLine_133 0 rfl rfl ?_
      refine g_iconst (v := (0 : Int32)) C dX10_reviewerLine_134 (by decide) ?_
      refine g_bipush (v := (7 : Int32)) C dX10_reviewerLine_135 (by decide) ?_
      obtain ⟨r_14, m_14, hk_14, h⟩ := b2_some h
      refine g_vI (As := [.int (0 : Int32), .int (7 : Int32)]) (a := 95) (ci := 10) C dX10_reviewerLine_137 mf_X10_number k_550 rfl (by decide) ⟨by decide, by decide⟩ rfl rfl (Nat.le_of_ble_eq_true rfl) (by decide) rfl (c_X10_number N (gl Γ) C.2.2.2.2 (gw Γ) (0 : Int32) (7 : Int32) m_13 _ hk_14) ?_
      refine g_ishl C dX10_reviewerLine_140 ?_
      refine g_ior C dX10_reviewerLine_141 ?_
      refine g_istore_n (lv' := [(2, .int (v2 ||| ((1 : Int32) <<< (r_14 &&& 31)))), (0, .ref (oa (gw Γ) 95)), (1, .int v1)]) C dX10_reviewerLine_142 rfl (by decide) rfl ?_
      refine g_goto (tgt := 110) C dX10_reviewerLine_143 (by decide) ?_
      refine g_sub [1, 2, 0] rfl ?_
      exact hrec v1 (v2 ||| ((1 : Int32) <<< (r_14 &&& 31))) m_14 b h hE
theorem lt_X10_reviewerLine_110 (N : Nat) (Γ : Gc) (C : Cx Γ cX10_reviewerLine 3 RX10 (rmK 4 89 0)) : ∀ (n : Nat) (v1 : Int32) (v2 : Int32) (m : Mem) (b : Int32 × Int32 × Mem), L_X10_reviewerLine_110 N n v1 v2 m = some b → Ex_X10_reviewerLine_110 Γ 0 b → G Γ 3 0 m 110 [(0, .ref (oa (gw Γ) 95)), (1, .int v1), (2, .int v2)] [] := by
  intro n
  induction n with
  | zero =>
    intro v1 v2 m b h
    have h9 : (none : Option (Int32 × Int32 × Mem)) = some b := h
    cases h9
  | succ n ih => intro v1 v2 m b h hE; exact t_X10_reviewerLine_110 N Γ C (L_X10_reviewerLine_110 N n) b hE ih v1 v2 m h
set_option maxRecDepth 100000 in
set_option maxHeartbeats 4000000 in
theorem t_X10_reviewerLine_146 (N : Nat) (Γ : Gc) (C : Cx Γ cX10_reviewerLine 3 RX10 (rmK 4 89 0)) (b : Mem) (hE : EVn Γ 3 cX10_reviewerLine b) (v1 : Int32) (v2 : Int32) (m : Mem) (h : B_X10_reviewerLine_146 N v1 v2 m = some b) : G Γ 3 0 m 146 [(0, .ref (oa (gw Γ) 95)), (1, .int v1), (2, .int v2)] [] := by
  unfold B_X10_reviewerLine_146 at h
  refine g_aload_n C dX10_reviewerLine_146 0 rfl rfl ?_
  refine g_getT (b := 97) (ci := 10) (j := 2) C dX10_reviewerLine_147 rfl (by decide) rfl inT_X10 (by decide) k_544 rfl rfl rfl rfl ?_
  refine g_iload_n C dX10_reviewerLine_150 1 rfl rfl ?_
  refine g_iconst (v := (3 : Int32)) C dX10_reviewerLine_151 (by decide) ?_
  refine g_iadd C dX10_reviewerLine_152 ?_
  refine g_iload_n C dX10_reviewerLine_153 2 rfl rfl ?_
  obtain ⟨g_18, h⟩ := gd_some h
  obtain ⟨m_19, e_19, h⟩ := wr_some h
  refine g_iast C dX10_reviewerLine_154 (okA_of rfl rfl g_18) (G_m e_19 ?_)
  refine g_aload_n C dX10_reviewerLine_155 0 rfl rfl ?_
  refine g_getT (b := 97) (ci := 10) (j := 2) C dX10_reviewerLine_156 rfl (by decide) rfl inT_X10 (by decide) k_544 rfl rfl rfl rfl ?_
  refine g_iconst (v := (1 : Int32)) C dX10_reviewerLine_159 (by decide) ?_
  refine g_dup2 C dX10_reviewerLine_160 rfl rfl ?_
  refine g_iald' (j := 1) C dX10_reviewerLine_161 (okA_of rfl rfl (by decide)) (by decide) ?_
  refine g_iconst (v := (1 : Int32)) C dX10_reviewerLine_162 (by decide) ?_
  refine g_iadd C dX10_reviewerLine_163 ?_
  obtain ⟨m_20, e_20, h⟩ := wr_some h
  refine g_iast' (j := 1) C dX10_reviewerLine_164 (okA_of rfl rfl (by decide)) (by decide) (G_m e_20 ?_)
  obtain rfl := Option.some.inj h
  exact hE 165 _ dX10_reviewerLine_165
set_option maxRecDepth 100000 in
set_option maxHeartbeats 4000000 in
theorem t_X10_reviewerLine_100 (N : Nat) (Γ : Gc) (C : Cx Γ cX10_reviewerLine 3 RX10 (rmK 4 89 0)) (b : Mem) (hE : EVn Γ 3 cX10_reviewerLine b) (v1 : Int32) (m : Mem) (h : B_X10_reviewerLine_100 N v1 m = some b) : G Γ 3 0 m 100 [(0, .ref (oa (gw Γ) 95)), (1, .int v1)] [] := by
  unfold B_X10_reviewerLine_100 at h
  refine g_iconst (v := (1 : Int32)) C dX10_reviewerLine_100 (by decide) ?_
  refine g_aload_n C dX10_reviewerLine_101 0 rfl rfl ?_
  refine g_iconst (v := (0 : Int32)) C dX10_reviewerLine_102 (by decide) ?_
  refine g_bipush (v := (7 : Int32)) C dX10_reviewerLine_103 (by decide) ?_
  obtain ⟨r_11, m_11, hk_11, h⟩ := b2_some h
  refine g_vI (As := [.int (0 : Int32), .int (7 : Int32)]) (a := 95) (ci := 10) C dX10_reviewerLine_105 mf_X10_number k_550 rfl (by decide) ⟨by decide, by decide⟩ rfl rfl (Nat.le_of_ble_eq_true rfl) (by decide) rfl (c_X10_number N (gl Γ) C.2.2.2.2 (gw Γ) (0 : Int32) (7 : Int32) m _ hk_11) ?_
  refine g_ishl C dX10_reviewerLine_108 ?_
  refine g_istore_n (lv' := [(2, .int ((1 : Int32) <<< (r_11 &&& 31))), (0, .ref (oa (gw Γ) 95)), (1, .int v1)]) C dX10_reviewerLine_109 rfl (by decide) rfl ?_
  obtain ⟨v1_17, v2_17, m_17, hx, h⟩ := l3_some h
  refine g_sub [1, 2, 0] rfl ?_
  refine lt_X10_reviewerLine_110 N Γ C N v1 ((1 : Int32) <<< (r_11 &&& 31)) m_11 _ hx ?_
  intro z1 z2 m9 e9
  cases e9
  refine g_sub [0, 1, 2] rfl ?_
  exact t_X10_reviewerLine_146 N Γ C b hE v1_17 v2_17 m_17 h
set_option maxRecDepth 100000 in
set_option maxHeartbeats 4000000 in
theorem t_X10_reviewerLine (N : Nat) (Γ : Gc) (C : Cx Γ cX10_reviewerLine 3 RX10 (rmK 4 89 0))  (m : Mem) (b : Mem) (h : f_X10_reviewerLine N  m = some b) (hE : EVn Γ 3 cX10_reviewerLine b) : G Γ 3 0 m 0 [(0, .ref (oa (gw Γ) 95))] [] := by
  unfold f_X10_reviewerLine at h
  refine g_aload_n C dX10_reviewerLine_0 0 rfl rfl ?_
  refine g_iconst (v := (1 : Int32)) C dX10_reviewerLine_1 (by decide) ?_
  refine g_bipush (v := (12 : Int32)) C dX10_reviewerLine_2 (by decide) ?_
  obtain ⟨r_1, m_1, hk_1, h⟩ := b2_some h
  refine g_vI (As := [.int (1 : Int32), .int (12 : Int32)]) (a := 95) (ci := 10) C dX10_reviewerLine_4 mf_X10_adds k_545 rfl (by decide) ⟨by decide, by decide⟩ rfl rfl (Nat.le_of_ble_eq_true rfl) (by decide) rfl (c_X10_adds N (gl Γ) C.2.2.2.2 (gw Γ) (1 : Int32) (12 : Int32) m _ hk_1) ?_
  refine g_if_ne (tgt := 11) C dX10_reviewerLine_7 (by decide) (fun c_25 => ?_) (fun c_25 => ?_)
  · replace h := it_f c_25 h
    refine g_bipush (v := (11 : Int32)) C dX10_reviewerLine_11 (by decide) ?_
    refine g_iconst (v := (4 : Int32)) C dX10_reviewerLine_13 (by decide) ?_
    refine g_aload_n C dX10_reviewerLine_14 0 rfl rfl ?_
    refine g_getT (b := 97) (ci := 10) (j := 2) C dX10_reviewerLine_15 rfl (by decide) rfl inT_X10 (by decide) k_544 rfl rfl rfl rfl ?_
    refine g_iconst (v := (1 : Int32)) C dX10_reviewerLine_18 (by decide) ?_
    refine g_iald' (j := 1) C dX10_reviewerLine_19 (okA_of rfl rfl (by decide)) (by decide) ?_
    refine g_imul C dX10_reviewerLine_20 ?_
    refine g_iadd C dX10_reviewerLine_21 ?_
    refine g_istore_n (lv' := [(1, .int ((11 : Int32) + ((4 : Int32) * (gI m_1 97 1)))), (0, .ref (oa (gw Γ) 95))]) C dX10_reviewerLine_22 rfl (by decide) rfl ?_
    refine g_aload_n C dX10_reviewerLine_23 1 rfl rfl ?_
    refine g_getT (b := 97) (ci := 10) (j := 2) C dX10_reviewerLine_24 rfl (by decide) rfl inT_X10 (by decide) k_544 rfl rfl rfl rfl ?_
    refine g_iload_n C dX10_reviewerLine_27 0 rfl rfl ?_
    refine g_iconst (v := (0 : Int32)) C dX10_reviewerLine_28 (by decide) ?_
    refine g_iadd C dX10_reviewerLine_29 ?_
    refine g_aload_n C dX10_reviewerLine_30 1 rfl rfl ?_
    refine g_iconst (v := (0 : Int32)) C dX10_reviewerLine_31 (by decide) ?_
    refine g_aload_n C dX10_reviewerLine_32 1 rfl rfl ?_
    refine g_getT (b := 97) (ci := 10) (j := 2) C dX10_reviewerLine_33 rfl (by decide) rfl inT_X10 (by decide) k_544 rfl rfl rfl rfl ?_
    refine g_iconst (v := (0 : Int32)) C dX10_reviewerLine_36 (by decide) ?_
    refine g_iald' (j := 0) C dX10_reviewerLine_37 (okA_of rfl rfl (by decide)) (by decide) ?_
    refine g_iconst (v := (1 : Int32)) C dX10_reviewerLine_38 (by decide) ?_
    refine g_isub C dX10_reviewerLine_39 ?_
    obtain ⟨r_2, m_2, hk_2, h⟩ := b2_some h
    refine g_vI (As := [.int (0 : Int32), .int ((gI m_1 97 0) - (1 : Int32))]) (a := 95) (ci := 10) C dX10_reviewerLine_40 mf_X10_number k_550 rfl (by decide) ⟨by decide, by decide⟩ rfl rfl (Nat.le_of_ble_eq_true rfl) (by decide) rfl (c_X10_number N (gl Γ) C.2.2.2.2 (gw Γ) (0 : Int32) ((gI m_1 97 0) - (1 : Int32)) m_1 _ hk_2) ?_
    obtain ⟨g_3, h⟩ := gd_some h
    obtain ⟨m_4, e_4, h⟩ := wr_some h
    refine g_iast C dX10_reviewerLine_43 (okA_of rfl rfl g_3) (G_m e_4 ?_)
    refine g_aload_n C dX10_reviewerLine_44 1 rfl rfl ?_
    refine g_getT (b := 97) (ci := 10) (j := 2) C dX10_reviewerLine_45 rfl (by decide) rfl inT_X10 (by decide) k_544 rfl rfl rfl rfl ?_
    refine g_iload_n C dX10_reviewerLine_48 0 rfl rfl ?_
    refine g_iconst (v := (1 : Int32)) C dX10_reviewerLine_49 (by decide) ?_
    refine g_iadd C dX10_reviewerLine_50 ?_
    refine g_aload_n C dX10_reviewerLine_51 1 rfl rfl ?_
    refine g_iconst (v := (0 : Int32)) C dX10_reviewerLine_52 (by decide) ?_
    refine g_bipush (v := (9 : Int32)) C dX10_reviewerLine_53 (by decide) ?_
    obtain ⟨r_5, m_5, hk_5, h⟩ := b2_some h
    refine g_vI (As := [.int (0 : Int32), .int (9 : Int32)]) (a := 95) (ci := 10) C dX10_reviewerLine_55 mf_X10_number k_550 rfl (by decide) ⟨by decide, by decide⟩ rfl rfl (Nat.le_of_ble_eq_true rfl) (by decide) rfl (c_X10_number N (gl Γ) C.2.2.2.2 (gw Γ) (0 : Int32) (9 : Int32) m_4 _ hk_5) ?_
    obtain ⟨g_6, h⟩ := gd_some h
    obtain ⟨m_7, e_7, h⟩ := wr_some h
    refine g_iast C dX10_reviewerLine_58 (okA_of rfl rfl g_6) (G_m e_7 ?_)
    refine g_aload_n C dX10_reviewerLine_59 1 rfl rfl ?_
    refine g_getT (b := 97) (ci := 10) (j := 2) C dX10_reviewerLine_60 rfl (by decide) rfl inT_X10 (by decide) k_544 rfl rfl rfl rfl ?_
    refine g_iload_n C dX10_reviewerLine_63 0 rfl rfl ?_
    refine g_iconst (v := (2 : Int32)) C dX10_reviewerLine_64 (by decide) ?_
    refine g_iadd C dX10_reviewerLine_65 ?_
    refine g_aload_n C dX10_reviewerLine_66 1 rfl rfl ?_
    refine g_iconst (v := (1 : Int32)) C dX10_reviewerLine_67 (by decide) ?_
    refine g_bipush (v := (10 : Int32)) C dX10_reviewerLine_68 (by decide) ?_
    obtain ⟨r_8, m_8, hk_8, h⟩ := b2_some h
    refine g_vI (As := [.int (1 : Int32), .int (10 : Int32)]) (a := 95) (ci := 10) C dX10_reviewerLine_70 mf_X10_number k_550 rfl (by decide) ⟨by decide, by decide⟩ rfl rfl (Nat.le_of_ble_eq_true rfl) (by decide) rfl (c_X10_number N (gl Γ) C.2.2.2.2 (gw Γ) (1 : Int32) (10 : Int32) m_7 _ hk_8) ?_
    obtain ⟨g_9, h⟩ := gd_some h
    obtain ⟨m_10, e_10, h⟩ := wr_some h
    refine g_iast C dX10_reviewerLine_73 (okA_of rfl rfl g_9) (G_m e_10 ?_)
    refine g_aload_n C dX10_reviewerLine_74 1 rfl rfl ?_
    refine g_getI (ci := 10) (j := 11) C dX10_reviewerLine_75 rfl (by decide) rfl inT_X10 (by decide) k_522 rfl rfl ?_
    refine g_if_ne (tgt := 100) C dX10_reviewerLine_78 (by decide) (fun c_24 => ?_) (fun c_24 => ?_)
    · replace h := it_f c_24 h
      refine g_sub [1, 0] rfl ?_
      exact t_X10_reviewerLine_100 N Γ C b hE ((11 : Int32) + ((4 : Int32) * (gI m_1 97 1))) m_10 h
    · replace h := it_t c_24 h
      refine g_aload_n C dX10_reviewerLine_81 1 rfl rfl ?_
      refine g_ldc2 (v := (295271344 : Int64)) C dX10_reviewerLine_82 k_554 ?_
      obtain ⟨r_21, m_21, hk_21, h⟩ := b2_some h
      refine g_vI (As := [.long (295271344 : Int64)]) (a := 95) (ci := 10) C dX10_reviewerLine_85 mf_X10_takes k_555 rfl (by decide) ⟨by decide, by decide⟩ rfl rfl (Nat.le_of_ble_eq_true rfl) (by decide) rfl (c_X10_takes N (gl Γ) C.2.2.2.2 (gw Γ) (295271344 : Int64) m_10 _ hk_21) ?_
      refine g_if_ne (tgt := 100) C dX10_reviewerLine_88 (by decide) (fun c_23 => ?_) (fun c_23 => ?_)
      · replace h := it_f c_23 h
        refine g_sub [1, 0] rfl ?_
        exact t_X10_reviewerLine_100 N Γ C b hE ((11 : Int32) + ((4 : Int32) * (gI m_1 97 1))) m_21 h
      · replace h := it_t c_23 h
        refine g_aload_n C dX10_reviewerLine_91 1 rfl rfl ?_
        refine g_iconst (v := (1 : Int32)) C dX10_reviewerLine_92 (by decide) ?_
        refine g_aload_n C dX10_reviewerLine_93 1 rfl rfl ?_
        refine g_getI (ci := 10) (j := 8) C dX10_reviewerLine_94 rfl (by decide) rfl inT_X10 (by decide) k_521 rfl rfl ?_
        obtain ⟨m_22, hk_22, h⟩ := b1_some h
        refine g_vV (As := [.int (1 : Int32), .int (gI m_21 95 8)]) (a := 95) (ci := 10) C dX10_reviewerLine_97 mf_X10_wrong k_536 rfl (by decide) ⟨by decide, by decide⟩ rfl rfl (Nat.le_of_ble_eq_true rfl) (by decide) rfl (c_X10_wrong N (gl Γ) C.2.2.2.2 (gw Γ) (1 : Int32) (gI m_21 95 8) m_21 _ hk_22) ?_
        refine g_sub [1, 0] rfl ?_
        exact t_X10_reviewerLine_100 N Γ C b hE ((11 : Int32) + ((4 : Int32) * (gI m_1 97 1))) m_22 h
  · replace h := it_t c_25 h
    obtain rfl := Option.some.inj h
    exact hE 10 _ dX10_reviewerLine_10
theorem c_X10_reviewerLine (N : Nat) (l : Launch) (hst : l.stackTraces = false) (w : Om)  (m : Mem) (o : Mem) (h : f_X10_reviewerLine N  m = some o) : KV l yX10_reviewerLine cX10_reviewerLine 3 none 4 89 w [.ref (oa w 95)] m o := KV_of hst (by decide +kernel) RX10 rfl (Nat.le_of_ble_eq_true rfl) (fun Γ hw hl C hE => by
  subst hw; subst hl
  exact t_X10_reviewerLine N Γ C  m o h hE)
set_option maxRecDepth 100000 in
set_option maxHeartbeats 4000000 in
theorem t_X10_proposalLine_131 (N : Nat) (Γ : Gc) (C : Cx Γ cX10_proposalLine 2 RX10 (rmK 4 89 0)) (b : Mem) (hE : EVn Γ 2 cX10_proposalLine b) (s0 : Int32) (s1 : Int32) (m : Mem) (h : B_X10_proposalLine_131 N s0 s1 m = some b) : G Γ 2 0 m 131 [(0, .ref (oa (gw Γ) 95))] [.int s0, .int s1, .ref (oa (gw Γ) 97)] := by
  unfold B_X10_proposalLine_131 at h
  obtain ⟨g_15, h⟩ := gd_some h
  obtain ⟨m_16, e_16, h⟩ := wr_some h
  refine g_iast C dX10_proposalLine_131 (okA_of rfl rfl g_15) (G_m e_16 ?_)
  refine g_aload_n C dX10_proposalLine_132 0 rfl rfl ?_
  refine g_getT (b := 97) (ci := 10) (j := 2) C dX10_proposalLine_133 rfl (by decide) rfl inT_X10 (by decide) k_544 rfl rfl rfl rfl ?_
  refine g_iconst (v := (2 : Int32)) C dX10_proposalLine_136 (by decide) ?_
  refine g_dup2 C dX10_proposalLine_137 rfl rfl ?_
  refine g_iald' (j := 2) C dX10_proposalLine_138 (okA_of rfl rfl (by decide)) (by decide) ?_
  refine g_iconst (v := (1 : Int32)) C dX10_proposalLine_139 (by decide) ?_
  refine g_iadd C dX10_proposalLine_140 ?_
  obtain ⟨m_17, e_17, h⟩ := wr_some h
  refine g_iast' (j := 2) C dX10_proposalLine_141 (okA_of rfl rfl (by decide)) (by decide) (G_m e_17 ?_)
  obtain rfl := Option.some.inj h
  exact hE 142 _ dX10_proposalLine_142
set_option maxRecDepth 100000 in
set_option maxHeartbeats 4000000 in
theorem t_X10_proposalLine (N : Nat) (Γ : Gc) (C : Cx Γ cX10_proposalLine 2 RX10 (rmK 4 89 0))  (m : Mem) (b : Mem) (h : f_X10_proposalLine N  m = some b) (hE : EVn Γ 2 cX10_proposalLine b) : G Γ 2 0 m 0 [(0, .ref (oa (gw Γ) 95))] [] := by
  unfold f_X10_proposalLine at h
  refine g_aload_n C dX10_proposalLine_0 0 rfl rfl ?_
  refine g_iconst (v := (2 : Int32)) C dX10_proposalLine_1 (by decide) ?_
  refine g_bipush (v := (16 : Int32)) C dX10_proposalLine_2 (by decide) ?_
  obtain ⟨r_1, m_1, hk_1, h⟩ := b2_some h
  refine g_vI (As := [.int (2 : Int32), .int (16 : Int32)]) (a := 95) (ci := 10) C dX10_proposalLine_4 mf_X10_adds k_545 rfl (by decide) ⟨by decide, by decide⟩ rfl rfl (Nat.le_of_ble_eq_true rfl) (by decide) rfl (c_X10_adds N (gl Γ) C.2.2.2.2 (gw Γ) (2 : Int32) (16 : Int32) m _ hk_1) ?_
  refine g_if_ne (tgt := 11) C dX10_proposalLine_7 (by decide) (fun c_20 => ?_) (fun c_20 => ?_)
  · replace h := it_f c_20 h
    refine g_bipush (v := (59 : Int32)) C dX10_proposalLine_11 (by decide) ?_
    refine g_iconst (v := (5 : Int32)) C dX10_proposalLine_13 (by decide) ?_
    refine g_aload_n C dX10_proposalLine_14 0 rfl rfl ?_
    refine g_getT (b := 97) (ci := 10) (j := 2) C dX10_proposalLine_15 rfl (by decide) rfl inT_X10 (by decide) k_544 rfl rfl rfl rfl ?_
    refine g_iconst (v := (2 : Int32)) C dX10_proposalLine_18 (by decide) ?_
    refine g_iald' (j := 2) C dX10_proposalLine_19 (okA_of rfl rfl (by decide)) (by decide) ?_
    refine g_imul C dX10_proposalLine_20 ?_
    refine g_iadd C dX10_proposalLine_21 ?_
    refine g_istore_n (lv' := [(1, .int ((59 : Int32) + ((5 : Int32) * (gI m_1 97 2)))), (0, .ref (oa (gw Γ) 95))]) C dX10_proposalLine_22 rfl (by decide) rfl ?_
    refine g_aload_n C dX10_proposalLine_23 1 rfl rfl ?_
    refine g_getT (b := 97) (ci := 10) (j := 2) C dX10_proposalLine_24 rfl (by decide) rfl inT_X10 (by decide) k_544 rfl rfl rfl rfl ?_
    refine g_iload_n C dX10_proposalLine_27 0 rfl rfl ?_
    refine g_iconst (v := (0 : Int32)) C dX10_proposalLine_28 (by decide) ?_
    refine g_iadd C dX10_proposalLine_29 ?_
    refine g_aload_n C dX10_proposalLine_30 1 rfl rfl ?_
    refine g_iconst (v := (0 : Int32)) C dX10_proposalLine_31 (by decide) ?_
    refine g_aload_n C dX10_proposalLine_32 1 rfl rfl ?_
    refine g_getT (b := 97) (ci := 10) (j := 2) C dX10_proposalLine_33 rfl (by decide) rfl inT_X10 (by decide) k_544 rfl rfl rfl rfl ?_
    refine g_iconst (v := (0 : Int32)) C dX10_proposalLine_36 (by decide) ?_
    refine g_iald' (j := 0) C dX10_proposalLine_37 (okA_of rfl rfl (by decide)) (by decide) ?_
    refine g_iconst (v := (1 : Int32)) C dX10_proposalLine_38 (by decide) ?_
    refine g_isub C dX10_proposalLine_39 ?_
    obtain ⟨r_2, m_2, hk_2, h⟩ := b2_some h
    refine g_vI (As := [.int (0 : Int32), .int ((gI m_1 97 0) - (1 : Int32))]) (a := 95) (ci := 10) C dX10_proposalLine_40 mf_X10_number k_550 rfl (by decide) ⟨by decide, by decide⟩ rfl rfl (Nat.le_of_ble_eq_true rfl) (by decide) rfl (c_X10_number N (gl Γ) C.2.2.2.2 (gw Γ) (0 : Int32) ((gI m_1 97 0) - (1 : Int32)) m_1 _ hk_2) ?_
    obtain ⟨g_3, h⟩ := gd_some h
    obtain ⟨m_4, e_4, h⟩ := wr_some h
    refine g_iast C dX10_proposalLine_43 (okA_of rfl rfl g_3) (G_m e_4 ?_)
    refine g_aload_n C dX10_proposalLine_44 1 rfl rfl ?_
    refine g_getT (b := 97) (ci := 10) (j := 2) C dX10_proposalLine_45 rfl (by decide) rfl inT_X10 (by decide) k_544 rfl rfl rfl rfl ?_
    refine g_iload_n C dX10_proposalLine_48 0 rfl rfl ?_
    refine g_iconst (v := (1 : Int32)) C dX10_proposalLine_49 (by decide) ?_
    refine g_iadd C dX10_proposalLine_50 ?_
    refine g_aload_n C dX10_proposalLine_51 1 rfl rfl ?_
    refine g_iconst (v := (0 : Int32)) C dX10_proposalLine_52 (by decide) ?_
    refine g_bipush (v := (9 : Int32)) C dX10_proposalLine_53 (by decide) ?_
    obtain ⟨r_5, m_5, hk_5, h⟩ := b2_some h
    refine g_vI (As := [.int (0 : Int32), .int (9 : Int32)]) (a := 95) (ci := 10) C dX10_proposalLine_55 mf_X10_number k_550 rfl (by decide) ⟨by decide, by decide⟩ rfl rfl (Nat.le_of_ble_eq_true rfl) (by decide) rfl (c_X10_number N (gl Γ) C.2.2.2.2 (gw Γ) (0 : Int32) (9 : Int32) m_4 _ hk_5) ?_
    obtain ⟨g_6, h⟩ := gd_some h
    obtain ⟨m_7, e_7, h⟩ := wr_some h
    refine g_iast C dX10_proposalLine_58 (okA_of rfl rfl g_6) (G_m e_7 ?_)
    refine g_aload_n C dX10_proposalLine_59 1 rfl rfl ?_
    refine g_getT (b := 97) (ci := 10) (j := 2) C dX10_proposalLine_60 rfl (by decide) rfl inT_X10 (by decide) k_544 rfl rfl rfl rfl ?_
    refine g_iload_n C dX10_proposalLine_63 0 rfl rfl ?_
    refine g_iconst (v := (2 : Int32)) C dX10_proposalLine_64 (by decide) ?_
    refine g_iadd C dX10_proposalLine_65 ?_
    refine g_aload_n C dX10_proposalLine_66 1 rfl rfl ?_
    refine g_iconst (v := (0 : Int32)) C dX10_proposalLine_67 (by decide) ?_
    refine g_bipush (v := (7 : Int32)) C dX10_proposalLine_68 (by decide) ?_
    obtain ⟨r_8, m_8, hk_8, h⟩ := b2_some h
    refine g_vI (As := [.int (0 : Int32), .int (7 : Int32)]) (a := 95) (ci := 10) C dX10_proposalLine_70 mf_X10_number k_550 rfl (by decide) ⟨by decide, by decide⟩ rfl rfl (Nat.le_of_ble_eq_true rfl) (by decide) rfl (c_X10_number N (gl Γ) C.2.2.2.2 (gw Γ) (0 : Int32) (7 : Int32) m_7 _ hk_8) ?_
    obtain ⟨g_9, h⟩ := gd_some h
    obtain ⟨m_10, e_10, h⟩ := wr_some h
    refine g_iast C dX10_proposalLine_73 (okA_of rfl rfl g_9) (G_m e_10 ?_)
    refine g_aload_n C dX10_proposalLine_74 1 rfl rfl ?_
    refine g_getT (b := 97) (ci := 10) (j := 2) C dX10_proposalLine_75 rfl (by decide) rfl inT_X10 (by decide) k_544 rfl rfl rfl rfl ?_
    refine g_iload_n C dX10_proposalLine_78 0 rfl rfl ?_
    refine g_iconst (v := (3 : Int32)) C dX10_proposalLine_79 (by decide) ?_
    refine g_iadd C dX10_proposalLine_80 ?_
    refine g_aload_n C dX10_proposalLine_81 1 rfl rfl ?_
    refine g_iconst (v := (1 : Int32)) C dX10_proposalLine_82 (by decide) ?_
    refine g_sipush (v := (9999 : Int32)) C dX10_proposalLine_83 (by decide) ?_
    obtain ⟨r_11, m_11, hk_11, h⟩ := b2_some h
    refine g_vI (As := [.int (1 : Int32), .int (9999 : Int32)]) (a := 95) (ci := 10) C dX10_proposalLine_86 mf_X10_number k_550 rfl (by decide) ⟨by decide, by decide⟩ rfl rfl (Nat.le_of_ble_eq_true rfl) (by decide) rfl (c_X10_number N (gl Γ) C.2.2.2.2 (gw Γ) (1 : Int32) (9999 : Int32) m_10 _ hk_11) ?_
    obtain ⟨g_12, h⟩ := gd_some h
    obtain ⟨m_13, e_13, h⟩ := wr_some h
    refine g_iast C dX10_proposalLine_89 (okA_of rfl rfl g_12) (G_m e_13 ?_)
    refine g_aload_n C dX10_proposalLine_90 1 rfl rfl ?_
    refine g_getT (b := 97) (ci := 10) (j := 2) C dX10_proposalLine_91 rfl (by decide) rfl inT_X10 (by decide) k_544 rfl rfl rfl rfl ?_
    refine g_iload_n C dX10_proposalLine_94 0 rfl rfl ?_
    refine g_iconst (v := (4 : Int32)) C dX10_proposalLine_95 (by decide) ?_
    refine g_iadd C dX10_proposalLine_96 ?_
    refine g_aload_n C dX10_proposalLine_97 1 rfl rfl ?_
    refine g_ldc2 (v := (6476969 : Int64)) C dX10_proposalLine_98 k_559 ?_
    obtain ⟨r_14, m_14, hk_14, h⟩ := b2_some h
    refine g_vI (As := [.long (6476969 : Int64)]) (a := 95) (ci := 10) C dX10_proposalLine_101 mf_X10_takes k_555 rfl (by decide) ⟨by decide, by decide⟩ rfl rfl (Nat.le_of_ble_eq_true rfl) (by decide) rfl (c_X10_takes N (gl Γ) C.2.2.2.2 (gw Γ) (6476969 : Int64) m_13 _ hk_14) ?_
    refine g_if_eq (tgt := 123) C dX10_proposalLine_104 (by decide) (fun c_19 => ?_) (fun c_19 => ?_)
    · replace h := it_t c_19 h
      refine g_aload_n C dX10_proposalLine_123 1 rfl rfl ?_
      refine g_getT (b := 97) (ci := 10) (j := 2) C dX10_proposalLine_124 rfl (by decide) rfl inT_X10 (by decide) k_544 rfl rfl rfl rfl ?_
      refine g_iload_n C dX10_proposalLine_127 0 rfl rfl ?_
      refine g_iconst (v := (3 : Int32)) C dX10_proposalLine_128 (by decide) ?_
      refine g_iadd C dX10_proposalLine_129 ?_
      refine g_iald C dX10_proposalLine_130 (okA_of rfl rfl g_12) ?_
      refine g_sub [1] rfl ?_
      exact t_X10_proposalLine_131 N Γ C b hE (gI m_14 97 (((59 : Int32) + ((5 : Int32) * (gI m_1 97 2))) + (3 : Int32)).toNatClampNeg) (((59 : Int32) + ((5 : Int32) * (gI m_1 97 2))) + (4 : Int32)) m_14 h
    · replace h := it_f c_19 h
      refine g_aload_n C dX10_proposalLine_107 1 rfl rfl ?_
      refine g_iconst (v := (1 : Int32)) C dX10_proposalLine_108 (by decide) ?_
      refine g_aload_n C dX10_proposalLine_109 1 rfl rfl ?_
      refine g_getT (b := 97) (ci := 10) (j := 2) C dX10_proposalLine_110 rfl (by decide) rfl inT_X10 (by decide) k_544 rfl rfl rfl rfl ?_
      refine g_iload_n C dX10_proposalLine_113 0 rfl rfl ?_
      refine g_iconst (v := (3 : Int32)) C dX10_proposalLine_114 (by decide) ?_
      refine g_iadd C dX10_proposalLine_115 ?_
      refine g_iald C dX10_proposalLine_116 (okA_of rfl rfl g_12) ?_
      obtain ⟨r_18, m_18, hk_18, h⟩ := b2_some h
      refine g_vI (As := [.int (1 : Int32), .int (gI m_14 97 (((59 : Int32) + ((5 : Int32) * (gI m_1 97 2))) + (3 : Int32)).toNatClampNeg)]) (a := 95) (ci := 10) C dX10_proposalLine_117 mf_X10_number k_550 rfl (by decide) ⟨by decide, by decide⟩ rfl rfl (Nat.le_of_ble_eq_true rfl) (by decide) rfl (c_X10_number N (gl Γ) C.2.2.2.2 (gw Γ) (1 : Int32) (gI m_14 97 (((59 : Int32) + ((5 : Int32) * (gI m_1 97 2))) + (3 : Int32)).toNatClampNeg) m_14 _ hk_18) ?_
      refine g_goto (tgt := 131) C dX10_proposalLine_120 (by decide) ?_
      refine g_sub [1] rfl ?_
      exact t_X10_proposalLine_131 N Γ C b hE r_18 (((59 : Int32) + ((5 : Int32) * (gI m_1 97 2))) + (4 : Int32)) m_18 h
  · replace h := it_t c_20 h
    obtain rfl := Option.some.inj h
    exact hE 10 _ dX10_proposalLine_10
theorem c_X10_proposalLine (N : Nat) (l : Launch) (hst : l.stackTraces = false) (w : Om)  (m : Mem) (o : Mem) (h : f_X10_proposalLine N  m = some o) : KV l yX10_proposalLine cX10_proposalLine 2 none 4 89 w [.ref (oa w 95)] m o := KV_of hst (by decide +kernel) RX10 rfl (Nat.le_of_ble_eq_true rfl) (fun Γ hw hl C hE => by
  subst hw; subst hl
  exact t_X10_proposalLine N Γ C  m o h hE)
set_option maxRecDepth 100000 in
set_option maxHeartbeats 4000000 in
theorem t_X10_conflictLine (N : Nat) (Γ : Gc) (C : Cx Γ cX10_conflictLine 3 RX10 (rmK 2 47 0))  (m : Mem) (b : Mem) (h : f_X10_conflictLine N  m = some b) (hE : EVn Γ 3 cX10_conflictLine b) : G Γ 3 0 m 0 [(0, .ref (oa (gw Γ) 95))] [] := by
  unfold f_X10_conflictLine at h
  refine g_aload_n C dX10_conflictLine_0 0 rfl rfl ?_
  refine g_aload_n C dX10_conflictLine_1 0 rfl rfl ?_
  obtain ⟨r_1, m_1, hk_1, h⟩ := b2_some h
  refine g_vI (As := []) (a := 95) (ci := 10) C dX10_conflictLine_2 mf_X10_wordEnd k_525 rfl (by decide) ⟨by decide, by decide⟩ rfl rfl (Nat.le_of_ble_eq_true rfl) (by decide) rfl (c_X10_wordEnd N (gl Γ) C.2.2.2.2 (gw Γ)  m _ hk_1) ?_
  obtain ⟨m_2, e_2, h⟩ := wr_some h
  refine g_putI (ci := 10) (j := 8) C dX10_conflictLine_5 rfl (by decide) rfl inT_X10 (by decide) k_521 tyX10 tyX10_ok nmX10 rfl rfl rfl rfl rfl (G_m e_2 ?_)
  refine g_aload_n C dX10_conflictLine_8 0 rfl rfl ?_
  refine g_iconst (v := (0 : Int32)) C dX10_conflictLine_9 (by decide) ?_
  refine g_aload_n C dX10_conflictLine_10 0 rfl rfl ?_
  refine g_getT (b := 97) (ci := 10) (j := 2) C dX10_conflictLine_11 rfl (by decide) rfl inT_X10 (by decide) k_544 rfl rfl rfl rfl ?_
  refine g_iconst (v := (1 : Int32)) C dX10_conflictLine_14 (by decide) ?_
  refine g_iald' (j := 1) C dX10_conflictLine_15 (okA_of rfl rfl (by decide)) (by decide) ?_
  refine g_iconst (v := (1 : Int32)) C dX10_conflictLine_16 (by decide) ?_
  refine g_isub C dX10_conflictLine_17 ?_
  obtain ⟨r_3, m_3, hk_3, h⟩ := b2_some h
  refine g_vI (As := [.int (0 : Int32), .int ((gI m_2 97 1) - (1 : Int32))]) (a := 95) (ci := 10) C dX10_conflictLine_18 mf_X10_number k_550 rfl (by decide) ⟨by decide, by decide⟩ rfl rfl (Nat.le_of_ble_eq_true rfl) (by decide) rfl (c_X10_number N (gl Γ) C.2.2.2.2 (gw Γ) (0 : Int32) ((gI m_2 97 1) - (1 : Int32)) m_2 _ hk_3) ?_
  refine g_istore_n (lv' := [(1, .int r_3), (0, .ref (oa (gw Γ) 95))]) C dX10_conflictLine_21 rfl (by decide) rfl ?_
  refine g_aload_n C dX10_conflictLine_22 1 rfl rfl ?_
  refine g_iconst (v := (0 : Int32)) C dX10_conflictLine_23 (by decide) ?_
  refine g_aload_n C dX10_conflictLine_24 1 rfl rfl ?_
  refine g_getT (b := 97) (ci := 10) (j := 2) C dX10_conflictLine_25 rfl (by decide) rfl inT_X10 (by decide) k_544 rfl rfl rfl rfl ?_
  refine g_iconst (v := (2 : Int32)) C dX10_conflictLine_28 (by decide) ?_
  refine g_iald' (j := 2) C dX10_conflictLine_29 (okA_of rfl rfl (by decide)) (by decide) ?_
  refine g_iconst (v := (1 : Int32)) C dX10_conflictLine_30 (by decide) ?_
  refine g_isub C dX10_conflictLine_31 ?_
  obtain ⟨r_4, m_4, hk_4, h⟩ := b2_some h
  refine g_vI (As := [.int (0 : Int32), .int ((gI m_3 97 2) - (1 : Int32))]) (a := 95) (ci := 10) C dX10_conflictLine_32 mf_X10_number k_550 rfl (by decide) ⟨by decide, by decide⟩ rfl rfl (Nat.le_of_ble_eq_true rfl) (by decide) rfl (c_X10_number N (gl Γ) C.2.2.2.2 (gw Γ) (0 : Int32) ((gI m_3 97 2) - (1 : Int32)) m_3 _ hk_4) ?_
  refine g_istore_n (lv' := [(2, .int r_4), (1, .int r_3), (0, .ref (oa (gw Γ) 95))]) C dX10_conflictLine_35 rfl (by decide) rfl ?_
  refine g_aload_n C dX10_conflictLine_36 2 rfl rfl ?_
  refine g_getT (b := 97) (ci := 10) (j := 2) C dX10_conflictLine_37 rfl (by decide) rfl inT_X10 (by decide) k_544 rfl rfl rfl rfl ?_
  refine g_sipush (v := (139 : Int32)) C dX10_conflictLine_40 (by decide) ?_
  refine g_iload_n C dX10_conflictLine_43 1 rfl rfl ?_
  refine g_iadd C dX10_conflictLine_44 ?_
  refine g_dup2 C dX10_conflictLine_45 rfl rfl ?_
  obtain ⟨g_5, h⟩ := gd_some h
  refine g_iald C dX10_conflictLine_46 (okA_of rfl rfl g_5) ?_
  refine g_iconst (v := (1 : Int32)) C dX10_conflictLine_47 (by decide) ?_
  refine g_iload_n C dX10_conflictLine_48 0 rfl rfl ?_
  refine g_ishl C dX10_conflictLine_49 ?_
  refine g_ior C dX10_conflictLine_50 ?_
  obtain ⟨m_6, e_6, h⟩ := wr_some h
  refine g_iast C dX10_conflictLine_51 (okA_of rfl rfl g_5) (G_m e_6 ?_)
  obtain rfl := Option.some.inj h
  exact hE 52 _ dX10_conflictLine_52
theorem c_X10_conflictLine (N : Nat) (l : Launch) (hst : l.stackTraces = false) (w : Om)  (m : Mem) (o : Mem) (h : f_X10_conflictLine N  m = some o) : KV l yX10_conflictLine cX10_conflictLine 3 none 2 47 w [.ref (oa w 95)] m o := KV_of hst (by decide +kernel) RX10 rfl (Nat.le_of_ble_eq_true rfl) (fun Γ hw hl C hE => by
  subst hw; subst hl
  exact t_X10_conflictLine N Γ C  m o h hE)
set_option maxRecDepth 100000 in
set_option maxHeartbeats 4000000 in
theorem t_X10_textLine_215 (N : Nat) (Γ : Gc) (C : Cx Γ cX10_textLine 3 RX10 (rmK 5 111 0)) (b : Mem) (hE : EVn Γ 3 cX10_textLine b)  (m : Mem) (h : B_X10_textLine_215 N  m = some b) : G Γ 3 0 m 215 [(0, .ref (oa (gw Γ) 95))] [] := by
  unfold B_X10_textLine_215 at h
  refine g_aload_n C dX10_textLine_215 0 rfl rfl ?_
  refine g_dup C dX10_textLine_216 rfl ?_
  refine g_getI (ci := 10) (j := 8) C dX10_textLine_217 rfl (by decide) rfl inT_X10 (by decide) k_521 rfl rfl ?_
  refine g_iconst (v := (1 : Int32)) C dX10_textLine_220 (by decide) ?_
  refine g_iadd C dX10_textLine_221 ?_
  obtain ⟨m_7, e_7, h⟩ := wr_some h
  refine g_putI (ci := 10) (j := 8) C dX10_textLine_222 rfl (by decide) rfl inT_X10 (by decide) k_521 tyX10 tyX10_ok nmX10 rfl rfl rfl rfl rfl (G_m e_7 ?_)
  obtain rfl := Option.some.inj h
  exact hE 225 _ dX10_textLine_225
set_option maxRecDepth 100000 in
set_option maxHeartbeats 4000000 in
theorem t_X10_textLine_190 (N : Nat) (Γ : Gc) (C : Cx Γ cX10_textLine 3 RX10 (rmK 5 111 0)) (b : Mem) (hE : EVn Γ 3 cX10_textLine b)  (m : Mem) (h : B_X10_textLine_190 N  m = some b) : G Γ 3 0 m 190 [(0, .ref (oa (gw Γ) 95))] [] := by
  unfold B_X10_textLine_190 at h
  refine g_aload_n C dX10_textLine_190 0 rfl rfl ?_
  refine g_getI (ci := 10) (j := 11) C dX10_textLine_191 rfl (by decide) rfl inT_X10 (by decide) k_522 rfl rfl ?_
  refine g_if_ne (tgt := 215) C dX10_textLine_194 (by decide) (fun c_11 => ?_) (fun c_11 => ?_)
  · replace h := it_f c_11 h
    refine g_sub [0] rfl ?_
    exact t_X10_textLine_215 N Γ C b hE  m h
  · replace h := it_t c_11 h
    refine g_aload_n C dX10_textLine_197 0 rfl rfl ?_
    obtain ⟨r_8, m_8, hk_8, h⟩ := b2_some h
    refine g_vI (As := []) (a := 95) (ci := 10) C dX10_textLine_198 mf_X10_here k_532 rfl (by decide) ⟨by decide, by decide⟩ rfl rfl (Nat.le_of_ble_eq_true rfl) (by decide) rfl (c_X10_here N (gl Γ) C.2.2.2.2 (gw Γ)  m _ hk_8) ?_
    refine g_bipush (v := (59 : Int32)) C dX10_textLine_201 (by decide) ?_
    refine g_icmp_eq (tgt := 215) C dX10_textLine_203 (by decide) (fun c_10 => ?_) (fun c_10 => ?_)
    · replace h := it_t c_10 h
      refine g_sub [0] rfl ?_
      exact t_X10_textLine_215 N Γ C b hE  m_8 h
    · replace h := it_f c_10 h
      refine g_aload_n C dX10_textLine_206 0 rfl rfl ?_
      refine g_iconst (v := (1 : Int32)) C dX10_textLine_207 (by decide) ?_
      refine g_aload_n C dX10_textLine_208 0 rfl rfl ?_
      refine g_getI (ci := 10) (j := 8) C dX10_textLine_209 rfl (by decide) rfl inT_X10 (by decide) k_521 rfl rfl ?_
      obtain ⟨m_9, hk_9, h⟩ := b1_some h
      refine g_vV (As := [.int (1 : Int32), .int (gI m_8 95 8)]) (a := 95) (ci := 10) C dX10_textLine_212 mf_X10_wrong k_536 rfl (by decide) ⟨by decide, by decide⟩ rfl rfl (Nat.le_of_ble_eq_true rfl) (by decide) rfl (c_X10_wrong N (gl Γ) C.2.2.2.2 (gw Γ) (1 : Int32) (gI m_8 95 8) m_8 _ hk_9) ?_
      refine g_sub [0] rfl ?_
      exact t_X10_textLine_215 N Γ C b hE  m_9 h
set_option maxRecDepth 100000 in
set_option maxHeartbeats 4000000 in
theorem t_X10_textLine_137 (N : Nat) (Γ : Gc) (C : Cx Γ cX10_textLine 3 RX10 (rmK 5 111 0)) (b : Mem) (hE : EVn Γ 3 cX10_textLine b) (s0 : Int32) (m : Mem) (h : B_X10_textLine_137 N s0 m = some b) : G Γ 3 0 m 137 [(0, .ref (oa (gw Γ) 95))] [.int s0, .ref (oa (gw Γ) 97)] := by
  unfold B_X10_textLine_137 at h
  refine g_aload_n C dX10_textLine_137 0 rfl rfl ?_
  refine g_iconst (v := (0 : Int32)) C dX10_textLine_138 (by decide) ?_
  refine g_ldc (v := (100000 : Int32)) C dX10_textLine_139 k_549 ?_
  obtain ⟨r_4, m_4, hk_4, h⟩ := b2_some h
  refine g_vI (As := [.int (0 : Int32), .int (100000 : Int32)]) (a := 95) (ci := 10) C dX10_textLine_141 mf_X10_number k_550 rfl (by decide) ⟨by decide, by decide⟩ rfl rfl (Nat.le_of_ble_eq_true rfl) (by decide) rfl (c_X10_number N (gl Γ) C.2.2.2.2 (gw Γ) (0 : Int32) (100000 : Int32) m _ hk_4) ?_
  obtain ⟨g_5, h⟩ := gd_some h
  obtain ⟨m_6, e_6, h⟩ := wr_some h
  refine g_iast C dX10_textLine_144 (okA_of rfl rfl g_5) (G_m e_6 ?_)
  refine g_goto (tgt := 190) C dX10_textLine_145 (by decide) ?_
  refine g_sub [0] rfl ?_
  exact t_X10_textLine_190 N Γ C b hE  m_6 h
set_option maxRecDepth 100000 in
set_option maxHeartbeats 4000000 in
theorem t_X10_textLine_112 (N : Nat) (Γ : Gc) (C : Cx Γ cX10_textLine 3 RX10 (rmK 5 111 0)) (b : Mem) (hE : EVn Γ 3 cX10_textLine b) (v1 : Int64) (m : Mem) (h : B_X10_textLine_112 N v1 m = some b) : G Γ 3 0 m 112 [(0, .ref (oa (gw Γ) 95)), (1, .long v1)] [] := by
  unfold B_X10_textLine_112 at h
  refine g_aload_n C dX10_textLine_112 0 rfl rfl ?_
  refine g_aload_n C dX10_textLine_113 0 rfl rfl ?_
  obtain ⟨r_2, m_2, hk_2, h⟩ := b2_some h
  refine g_vI (As := []) (a := 95) (ci := 10) C dX10_textLine_114 mf_X10_wordEnd k_525 rfl (by decide) ⟨by decide, by decide⟩ rfl rfl (Nat.le_of_ble_eq_true rfl) (by decide) rfl (c_X10_wordEnd N (gl Γ) C.2.2.2.2 (gw Γ)  m _ hk_2) ?_
  obtain ⟨m_3, e_3, h⟩ := wr_some h
  refine g_putI (ci := 10) (j := 8) C dX10_textLine_117 rfl (by decide) rfl inT_X10 (by decide) k_521 tyX10 tyX10_ok nmX10 rfl rfl rfl rfl rfl (G_m e_3 ?_)
  refine g_aload_n C dX10_textLine_120 0 rfl rfl ?_
  refine g_getT (b := 97) (ci := 10) (j := 2) C dX10_textLine_121 rfl (by decide) rfl inT_X10 (by decide) k_544 rfl rfl rfl rfl ?_
  refine g_lload_n C dX10_textLine_124 1 rfl rfl ?_
  refine g_ldc2 (v := (243140 : Int64)) C dX10_textLine_125 k_565 ?_
  refine g_lcmp C dX10_textLine_128 ?_
  refine g_if_ne (tgt := 136) C dX10_textLine_129 (by decide) (fun c_12 => ?_) (fun c_12 => ?_)
  · replace h := it_f c_12 h
    refine g_iconst (v := (5 : Int32)) C dX10_textLine_136 (by decide) ?_
    refine g_sub [0] rfl ?_
    exact t_X10_textLine_137 N Γ C b hE (5 : Int32) m_3 h
  · replace h := it_t c_12 h
    refine g_iconst (v := (4 : Int32)) C dX10_textLine_132 (by decide) ?_
    refine g_goto (tgt := 137) C dX10_textLine_133 (by decide) ?_
    refine g_sub [0] rfl ?_
    exact t_X10_textLine_137 N Γ C b hE (4 : Int32) m_3 h
set_option maxRecDepth 100000 in
set_option maxHeartbeats 4000000 in
theorem t_X10_textLine (N : Nat) (Γ : Gc) (C : Cx Γ cX10_textLine 3 RX10 (rmK 5 111 0))  (m : Mem) (b : Mem) (h : f_X10_textLine N  m = some b) (hE : EVn Γ 3 cX10_textLine b) : G Γ 3 0 m 0 [(0, .ref (oa (gw Γ) 95))] [] := by
  unfold f_X10_textLine at h
  refine g_aload_n C dX10_textLine_0 0 rfl rfl ?_
  obtain ⟨r_1, m_1, hk_1, h⟩ := b2_some h
  refine g_vL (As := []) (a := 95) (ci := 10) C dX10_textLine_1 mf_X10_word k_540 rfl (by decide) ⟨by decide, by decide⟩ rfl rfl (Nat.le_of_ble_eq_true rfl) (by decide) rfl (c_X10_word N (gl Γ) C.2.2.2.2 (gw Γ)  m _ hk_1) ?_
  refine g_lstore_n (lv' := [(1, .long r_1), (0, .ref (oa (gw Γ) 95))]) C dX10_textLine_4 rfl (by decide) rfl ?_
  refine g_lload_n C dX10_textLine_5 0 rfl rfl ?_
  refine g_ldc2 (v := (8533092 : Int64)) C dX10_textLine_6 k_560 ?_
  refine g_lcmp C dX10_textLine_9 ?_
  refine g_if_ne (tgt := 20) C dX10_textLine_10 (by decide) (fun c_33 => ?_) (fun c_33 => ?_)
  · replace h := it_f c_33 h
    refine g_lload_n C dX10_textLine_20 0 rfl rfl ?_
    refine g_ldc2 (v := (190544034357 : Int64)) C dX10_textLine_21 k_561 ?_
    refine g_lcmp C dX10_textLine_24 ?_
    refine g_if_ne (tgt := 35) C dX10_textLine_25 (by decide) (fun c_31 => ?_) (fun c_31 => ?_)
    · replace h := it_f c_31 h
      refine g_lload_n C dX10_textLine_35 0 rfl rfl ?_
      refine g_ldc2 (v := (174563265846 : Int64)) C dX10_textLine_36 k_562 ?_
      refine g_lcmp C dX10_textLine_39 ?_
      refine g_if_ne (tgt := 50) C dX10_textLine_40 (by decide) (fun c_29 => ?_) (fun c_29 => ?_)
      · replace h := it_f c_29 h
        refine g_lload_n C dX10_textLine_50 0 rfl rfl ?_
        refine g_ldc2 (v := (37396683146 : Int64)) C dX10_textLine_51 k_563 ?_
        refine g_lcmp C dX10_textLine_54 ?_
        refine g_if_ne (tgt := 65) C dX10_textLine_55 (by decide) (fun c_27 => ?_) (fun c_27 => ?_)
        · replace h := it_f c_27 h
          refine g_lload_n C dX10_textLine_65 0 rfl rfl ?_
          refine g_ldc2 (v := (7057186471 : Int64)) C dX10_textLine_66 k_564 ?_
          refine g_lcmp C dX10_textLine_69 ?_
          refine g_if_ne (tgt := 96) C dX10_textLine_70 (by decide) (fun c_25 => ?_) (fun c_25 => ?_)
          · replace h := it_f c_25 h
            refine g_lload_n C dX10_textLine_96 0 rfl rfl ?_
            refine g_ldc2 (v := (243140 : Int64)) C dX10_textLine_97 k_565 ?_
            refine g_lcmp C dX10_textLine_100 ?_
            refine g_if_eq (tgt := 112) C dX10_textLine_101 (by decide) (fun c_20 => ?_) (fun c_20 => ?_)
            · replace h := it_t c_20 h
              refine g_sub [1, 0] rfl ?_
              exact t_X10_textLine_112 N Γ C b hE r_1 m_1 h
            · replace h := it_f c_20 h
              refine g_lload_n C dX10_textLine_104 0 rfl rfl ?_
              refine g_ldc2 (v := (326280 : Int64)) C dX10_textLine_105 k_566 ?_
              refine g_lcmp C dX10_textLine_108 ?_
              refine g_if_ne (tgt := 148) C dX10_textLine_109 (by decide) (fun c_19 => ?_) (fun c_19 => ?_)
              · replace h := it_f c_19 h
                refine g_lload_n C dX10_textLine_148 0 rfl rfl ?_
                refine g_ldc2 (v := (6564179 : Int64)) C dX10_textLine_149 k_567 ?_
                refine g_lcmp C dX10_textLine_152 ?_
                refine g_if_ne (tgt := 181) C dX10_textLine_153 (by decide) (fun c_18 => ?_) (fun c_18 => ?_)
                · replace h := it_f c_18 h
                  refine g_aload_n C dX10_textLine_181 1 rfl rfl ?_
                  refine g_iconst (v := (1 : Int32)) C dX10_textLine_182 (by decide) ?_
                  refine g_aload_n C dX10_textLine_183 1 rfl rfl ?_
                  refine g_getI (ci := 10) (j := 8) C dX10_textLine_184 rfl (by decide) rfl inT_X10 (by decide) k_521 rfl rfl ?_
                  obtain ⟨m_13, hk_13, h⟩ := b1_some h
                  refine g_vV (As := [.int (1 : Int32), .int (gI m_1 95 8)]) (a := 95) (ci := 10) C dX10_textLine_187 mf_X10_wrong k_536 rfl (by decide) ⟨by decide, by decide⟩ rfl rfl (Nat.le_of_ble_eq_true rfl) (by decide) rfl (c_X10_wrong N (gl Γ) C.2.2.2.2 (gw Γ) (1 : Int32) (gI m_1 95 8) m_1 _ hk_13) ?_
                  refine g_sub [1] rfl ?_
                  exact t_X10_textLine_190 N Γ C b hE  m_13 h
                · replace h := it_t c_18 h
                  refine g_aload_n C dX10_textLine_156 1 rfl rfl ?_
                  refine g_aload_n C dX10_textLine_157 1 rfl rfl ?_
                  obtain ⟨r_14, m_14, hk_14, h⟩ := b2_some h
                  refine g_vI (As := []) (a := 95) (ci := 10) C dX10_textLine_158 mf_X10_wordEnd k_525 rfl (by decide) ⟨by decide, by decide⟩ rfl rfl (Nat.le_of_ble_eq_true rfl) (by decide) rfl (c_X10_wordEnd N (gl Γ) C.2.2.2.2 (gw Γ)  m_1 _ hk_14) ?_
                  obtain ⟨m_15, e_15, h⟩ := wr_some h
                  refine g_putI (ci := 10) (j := 8) C dX10_textLine_161 rfl (by decide) rfl inT_X10 (by decide) k_521 tyX10 tyX10_ok nmX10 rfl rfl rfl rfl rfl (G_m e_15 ?_)
                  refine g_aload_n C dX10_textLine_164 1 rfl rfl ?_
                  refine g_getT (b := 97) (ci := 10) (j := 2) C dX10_textLine_165 rfl (by decide) rfl inT_X10 (by decide) k_544 rfl rfl rfl rfl ?_
                  refine g_bipush (v := (6 : Int32)) C dX10_textLine_168 (by decide) ?_
                  refine g_aload_n C dX10_textLine_170 1 rfl rfl ?_
                  refine g_iconst (v := (0 : Int32)) C dX10_textLine_171 (by decide) ?_
                  refine g_bipush (v := (99 : Int32)) C dX10_textLine_172 (by decide) ?_
                  obtain ⟨r_16, m_16, hk_16, h⟩ := b2_some h
                  refine g_vI (As := [.int (0 : Int32), .int (99 : Int32)]) (a := 95) (ci := 10) C dX10_textLine_174 mf_X10_number k_550 rfl (by decide) ⟨by decide, by decide⟩ rfl rfl (Nat.le_of_ble_eq_true rfl) (by decide) rfl (c_X10_number N (gl Γ) C.2.2.2.2 (gw Γ) (0 : Int32) (99 : Int32) m_15 _ hk_16) ?_
                  obtain ⟨m_17, e_17, h⟩ := wr_some h
                  refine g_iast' (j := 6) C dX10_textLine_177 (okA_of rfl rfl (by decide)) (by decide) (G_m e_17 ?_)
                  refine g_goto (tgt := 190) C dX10_textLine_178 (by decide) ?_
                  refine g_sub [1] rfl ?_
                  exact t_X10_textLine_190 N Γ C b hE  m_17 h
              · replace h := it_t c_19 h
                refine g_sub [1, 0] rfl ?_
                exact t_X10_textLine_112 N Γ C b hE r_1 m_1 h
          · replace h := it_t c_25 h
            refine g_aload_n C dX10_textLine_73 1 rfl rfl ?_
            refine g_aload_n C dX10_textLine_74 1 rfl rfl ?_
            obtain ⟨r_21, m_21, hk_21, h⟩ := b2_some h
            refine g_vI (As := []) (a := 95) (ci := 10) C dX10_textLine_75 mf_X10_wordEnd k_525 rfl (by decide) ⟨by decide, by decide⟩ rfl rfl (Nat.le_of_ble_eq_true rfl) (by decide) rfl (c_X10_wordEnd N (gl Γ) C.2.2.2.2 (gw Γ)  m_1 _ hk_21) ?_
            obtain ⟨m_22, e_22, h⟩ := wr_some h
            refine g_putI (ci := 10) (j := 8) C dX10_textLine_78 rfl (by decide) rfl inT_X10 (by decide) k_521 tyX10 tyX10_ok nmX10 rfl rfl rfl rfl rfl (G_m e_22 ?_)
            refine g_aload_n C dX10_textLine_81 1 rfl rfl ?_
            refine g_getT (b := 97) (ci := 10) (j := 2) C dX10_textLine_82 rfl (by decide) rfl inT_X10 (by decide) k_544 rfl rfl rfl rfl ?_
            refine g_iconst (v := (3 : Int32)) C dX10_textLine_85 (by decide) ?_
            refine g_aload_n C dX10_textLine_86 1 rfl rfl ?_
            refine g_iconst (v := (1 : Int32)) C dX10_textLine_87 (by decide) ?_
            refine g_iconst (v := (4 : Int32)) C dX10_textLine_88 (by decide) ?_
            obtain ⟨r_23, m_23, hk_23, h⟩ := b2_some h
            refine g_vI (As := [.int (1 : Int32), .int (4 : Int32)]) (a := 95) (ci := 10) C dX10_textLine_89 mf_X10_number k_550 rfl (by decide) ⟨by decide, by decide⟩ rfl rfl (Nat.le_of_ble_eq_true rfl) (by decide) rfl (c_X10_number N (gl Γ) C.2.2.2.2 (gw Γ) (1 : Int32) (4 : Int32) m_22 _ hk_23) ?_
            obtain ⟨m_24, e_24, h⟩ := wr_some h
            refine g_iast' (j := 3) C dX10_textLine_92 (okA_of rfl rfl (by decide)) (by decide) (G_m e_24 ?_)
            refine g_goto (tgt := 190) C dX10_textLine_93 (by decide) ?_
            refine g_sub [1] rfl ?_
            exact t_X10_textLine_190 N Γ C b hE  m_24 h
        · replace h := it_t c_27 h
          refine g_aload_n C dX10_textLine_58 1 rfl rfl ?_
          obtain ⟨m_26, hk_26, h⟩ := b1_some h
          refine g_vV (As := []) (a := 95) (ci := 10) C dX10_textLine_59 mf_X10_conflictLine k_568 rfl (by decide) ⟨by decide, by decide⟩ rfl rfl (Nat.le_of_ble_eq_true rfl) (by decide) rfl (c_X10_conflictLine N (gl Γ) C.2.2.2.2 (gw Γ)  m_1 _ hk_26) ?_
          refine g_goto (tgt := 190) C dX10_textLine_62 (by decide) ?_
          refine g_sub [1] rfl ?_
          exact t_X10_textLine_190 N Γ C b hE  m_26 h
      · replace h := it_t c_29 h
        refine g_aload_n C dX10_textLine_43 1 rfl rfl ?_
        obtain ⟨m_28, hk_28, h⟩ := b1_some h
        refine g_vV (As := []) (a := 95) (ci := 10) C dX10_textLine_44 mf_X10_proposalLine k_572 rfl (by decide) ⟨by decide, by decide⟩ rfl rfl (Nat.le_of_ble_eq_true rfl) (by decide) rfl (c_X10_proposalLine N (gl Γ) C.2.2.2.2 (gw Γ)  m_1 _ hk_28) ?_
        refine g_goto (tgt := 190) C dX10_textLine_47 (by decide) ?_
        refine g_sub [1] rfl ?_
        exact t_X10_textLine_190 N Γ C b hE  m_28 h
    · replace h := it_t c_31 h
      refine g_aload_n C dX10_textLine_28 1 rfl rfl ?_
      obtain ⟨m_30, hk_30, h⟩ := b1_some h
      refine g_vV (As := []) (a := 95) (ci := 10) C dX10_textLine_29 mf_X10_reviewerLine k_576 rfl (by decide) ⟨by decide, by decide⟩ rfl rfl (Nat.le_of_ble_eq_true rfl) (by decide) rfl (c_X10_reviewerLine N (gl Γ) C.2.2.2.2 (gw Γ)  m_1 _ hk_30) ?_
      refine g_goto (tgt := 190) C dX10_textLine_32 (by decide) ?_
      refine g_sub [1] rfl ?_
      exact t_X10_textLine_190 N Γ C b hE  m_30 h
  · replace h := it_t c_33 h
    refine g_aload_n C dX10_textLine_13 1 rfl rfl ?_
    obtain ⟨m_32, hk_32, h⟩ := b1_some h
    refine g_vV (As := []) (a := 95) (ci := 10) C dX10_textLine_14 mf_X10_panelLine k_580 rfl (by decide) ⟨by decide, by decide⟩ rfl rfl (Nat.le_of_ble_eq_true rfl) (by decide) rfl (c_X10_panelLine N (gl Γ) C.2.2.2.2 (gw Γ)  m_1 _ hk_32) ?_
    refine g_goto (tgt := 190) C dX10_textLine_17 (by decide) ?_
    refine g_sub [1] rfl ?_
    exact t_X10_textLine_190 N Γ C b hE  m_32 h
theorem c_X10_textLine (N : Nat) (l : Launch) (hst : l.stackTraces = false) (w : Om)  (m : Mem) (o : Mem) (h : f_X10_textLine N  m = some o) : KV l yX10_textLine cX10_textLine 3 none 5 111 w [.ref (oa w 95)] m o := KV_of hst (by decide +kernel) RX10 rfl (Nat.le_of_ble_eq_true rfl) (fun Γ hw hl C hE => by
  subst hw; subst hl
  exact t_X10_textLine N Γ C  m o h hE)
def Ex_X10_load_17 (Γ : Gc) (cs : Nat) (b : Mem) : Prop := (∀  (m' : Mem), b = m' → G Γ 2 cs m' 37 [(0, .ref (oa (gw Γ) 95))] [])
set_option maxRecDepth 100000 in
set_option maxHeartbeats 4000000 in
theorem t_X10_load_17 (N : Nat) (Γ : Gc) (C : Cx Γ cX10_load 2 RX10 (rmK 6 133 0)) (rc : Int32 → Mem → Option (Mem)) (b : Mem) (hE : Ex_X10_load_17 Γ 0 b) (hrec : ∀ (v1 : Int32) (m : Mem) (b : Mem), rc v1 m = some b → Ex_X10_load_17 Γ 0 b → G Γ 2 0 m 17 [(0, .ref (oa (gw Γ) 95)), (1, .int v1)] []) (v1 : Int32) (m : Mem) (h : T_X10_load_17 N rc v1 m = some b) : G Γ 2 0 m 17 [(0, .ref (oa (gw Γ) 95)), (1, .int v1)] [] := by
  unfold T_X10_load_17 at h
  refine g_iload_n C dX10_load_17 1 rfl rfl ?_
  refine g_sipush (v := (151 : Int32)) C dX10_load_18 (by decide) ?_
  refine g_icmp_ge (tgt := 37) C dX10_load_21 (by decide) (fun c_6 => ?_) (fun c_6 => ?_)
  · replace h := it_t c_6 h
    obtain rfl := Option.some.inj h
    refine g_sub [0] rfl ?_
    exact hE _ rfl
  · replace h := it_f c_6 h
    refine g_aload_n C dX10_load_24 0 rfl rfl ?_
    refine g_getT (b := 97) (ci := 10) (j := 2) C dX10_load_25 rfl (by decide) rfl inT_X10 (by decide) k_544 rfl rfl rfl rfl ?_
    refine g_iload_n C dX10_load_28 1 rfl rfl ?_
    refine g_iconst (v := (0 : Int32)) C dX10_load_29 (by decide) ?_
    obtain ⟨g_4, h⟩ := gd_some h
    obtain ⟨m_5, e_5, h⟩ := wr_some h
    refine g_iast C dX10_load_30 (okA_of rfl rfl g_4) (G_m e_5 ?_)
    refine g_iinc (q := 1) (v := v1 + (1 : Int32)) (lv' := [(1, .int (v1 + (1 : Int32))), (0, .ref (oa (gw Γ) 95))]) C dX10_load_31 rfl rfl (by decide) rfl ?_
    refine g_goto (tgt := 17) C dX10_load_34 (by decide) ?_
    refine g_sub [1, 0] rfl ?_
    exact hrec (v1 + (1 : Int32)) m_5 b h hE
theorem lt_X10_load_17 (N : Nat) (Γ : Gc) (C : Cx Γ cX10_load 2 RX10 (rmK 6 133 0)) : ∀ (n : Nat) (v1 : Int32) (m : Mem) (b : Mem), L_X10_load_17 N n v1 m = some b → Ex_X10_load_17 Γ 0 b → G Γ 2 0 m 17 [(0, .ref (oa (gw Γ) 95)), (1, .int v1)] [] := by
  intro n
  induction n with
  | zero =>
    intro v1 m b h
    have h9 : (none : Option (Mem)) = some b := h
    cases h9
  | succ n ih => intro v1 m b h hE; exact t_X10_load_17 N Γ C (L_X10_load_17 N n) b hE ih v1 m h
def Ex_X10_load_63 (Γ : Gc) (cs : Nat) (b : Mem) : Prop := (∀  (m' : Mem), b = m' → G Γ 2 cs m' 85 [(0, .ref (oa (gw Γ) 95))] [])
set_option maxRecDepth 100000 in
set_option maxHeartbeats 4000000 in
theorem t_X10_load_63 (N : Nat) (Γ : Gc) (C : Cx Γ cX10_load 2 RX10 (rmK 6 133 0)) (rc : Mem → Option (Mem)) (b : Mem) (hE : Ex_X10_load_63 Γ 0 b) (hrec : ∀  (m : Mem) (b : Mem), rc  m = some b → Ex_X10_load_63 Γ 0 b → G Γ 2 0 m 63 [(0, .ref (oa (gw Γ) 95))] [])  (m : Mem) (h : T_X10_load_63 N rc  m = some b) : G Γ 2 0 m 63 [(0, .ref (oa (gw Γ) 95))] [] := by
  unfold T_X10_load_63 at h
  refine g_aload_n C dX10_load_63 0 rfl rfl ?_
  refine g_getI (ci := 10) (j := 11) C dX10_load_64 rfl (by decide) rfl inT_X10 (by decide) k_522 rfl rfl ?_
  refine g_if_ne (tgt := 85) C dX10_load_67 (by decide) (fun c_15 => ?_) (fun c_15 => ?_)
  · replace h := it_f c_15 h
    obtain rfl := Option.some.inj h
    refine g_sub [0] rfl ?_
    exact hE _ rfl
  · replace h := it_t c_15 h
    refine g_aload_n C dX10_load_70 0 rfl rfl ?_
    obtain ⟨r_12, m_12, hk_12, h⟩ := b2_some h
    refine g_vI (As := []) (a := 95) (ci := 10) C dX10_load_71 mf_X10_here k_532 rfl (by decide) ⟨by decide, by decide⟩ rfl rfl (Nat.le_of_ble_eq_true rfl) (by decide) rfl (c_X10_here N (gl Γ) C.2.2.2.2 (gw Γ)  m _ hk_12) ?_
    refine g_iconst (v := (-1 : Int32)) C dX10_load_74 (by decide) ?_
    refine g_icmp_eq (tgt := 85) C dX10_load_75 (by decide) (fun c_14 => ?_) (fun c_14 => ?_)
    · replace h := it_t c_14 h
      obtain rfl := Option.some.inj h
      refine g_sub [0] rfl ?_
      exact hE _ rfl
    · replace h := it_f c_14 h
      refine g_aload_n C dX10_load_78 0 rfl rfl ?_
      obtain ⟨m_13, hk_13, h⟩ := b1_some h
      refine g_vV (As := []) (a := 95) (ci := 10) C dX10_load_79 mf_X10_textLine k_584 rfl (by decide) ⟨by decide, by decide⟩ rfl rfl (Nat.le_of_ble_eq_true rfl) (by decide) rfl (c_X10_textLine N (gl Γ) C.2.2.2.2 (gw Γ)  m_12 _ hk_13) ?_
      refine g_goto (tgt := 63) C dX10_load_82 (by decide) ?_
      refine g_sub [0] rfl ?_
      exact hrec  m_13 b h hE
theorem lt_X10_load_63 (N : Nat) (Γ : Gc) (C : Cx Γ cX10_load 2 RX10 (rmK 6 133 0)) : ∀ (n : Nat)  (m : Mem) (b : Mem), L_X10_load_63 N n  m = some b → Ex_X10_load_63 Γ 0 b → G Γ 2 0 m 63 [(0, .ref (oa (gw Γ) 95))] [] := by
  intro n
  induction n with
  | zero =>
    intro  m b h
    have h9 : (none : Option (Mem)) = some b := h
    cases h9
  | succ n ih => intro  m b h hE; exact t_X10_load_63 N Γ C (L_X10_load_63 N n) b hE ih  m h
def Ex_X10_load_105 (Γ : Gc) (cs : Nat) (b : Mem) : Prop := (∀  (m' : Mem), b = m' → G Γ 2 cs m' 130 [(0, .ref (oa (gw Γ) 95))] [])
set_option maxRecDepth 100000 in
set_option maxHeartbeats 4000000 in
theorem t_X10_load_105 (N : Nat) (Γ : Gc) (C : Cx Γ cX10_load 2 RX10 (rmK 6 133 0)) (rc : Int32 → Mem → Option (Mem)) (b : Mem) (hE : Ex_X10_load_105 Γ 0 b) (hrec : ∀ (v1 : Int32) (m : Mem) (b : Mem), rc v1 m = some b → Ex_X10_load_105 Γ 0 b → G Γ 2 0 m 105 [(0, .ref (oa (gw Γ) 95)), (1, .int v1)] []) (v1 : Int32) (m : Mem) (h : T_X10_load_105 N rc v1 m = some b) : G Γ 2 0 m 105 [(0, .ref (oa (gw Γ) 95)), (1, .int v1)] [] := by
  unfold T_X10_load_105 at h
  refine g_iload_n C dX10_load_105 1 rfl rfl ?_
  refine g_sipush (v := (151 : Int32)) C dX10_load_106 (by decide) ?_
  refine g_icmp_ge (tgt := 130) C dX10_load_109 (by decide) (fun c_20 => ?_) (fun c_20 => ?_)
  · replace h := it_t c_20 h
    obtain rfl := Option.some.inj h
    refine g_sub [0] rfl ?_
    exact hE _ rfl
  · replace h := it_f c_20 h
    refine g_aload_n C dX10_load_112 0 rfl rfl ?_
    refine g_getT (b := 96) (ci := 10) (j := 1) C dX10_load_113 rfl (by decide) rfl inT_X10 (by decide) k_506 rfl rfl rfl rfl ?_
    refine g_iload_n C dX10_load_116 1 rfl rfl ?_
    refine g_aload_n C dX10_load_117 0 rfl rfl ?_
    refine g_getT (b := 97) (ci := 10) (j := 2) C dX10_load_118 rfl (by decide) rfl inT_X10 (by decide) k_544 rfl rfl rfl rfl ?_
    refine g_iload_n C dX10_load_121 1 rfl rfl ?_
    obtain ⟨g_18, h⟩ := gd_some h
    refine g_iald C dX10_load_122 (okA_of rfl rfl g_18) ?_
    obtain ⟨m_19, e_19, h⟩ := wr_some h
    refine g_iast C dX10_load_123 (okA_of rfl rfl g_18) (G_m e_19 ?_)
    refine g_iinc (q := 1) (v := v1 + (1 : Int32)) (lv' := [(1, .int (v1 + (1 : Int32))), (0, .ref (oa (gw Γ) 95))]) C dX10_load_124 rfl rfl (by decide) rfl ?_
    refine g_goto (tgt := 105) C dX10_load_127 (by decide) ?_
    refine g_sub [1, 0] rfl ?_
    exact hrec (v1 + (1 : Int32)) m_19 b h hE
theorem lt_X10_load_105 (N : Nat) (Γ : Gc) (C : Cx Γ cX10_load 2 RX10 (rmK 6 133 0)) : ∀ (n : Nat) (v1 : Int32) (m : Mem) (b : Mem), L_X10_load_105 N n v1 m = some b → Ex_X10_load_105 Γ 0 b → G Γ 2 0 m 105 [(0, .ref (oa (gw Γ) 95)), (1, .int v1)] [] := by
  intro n
  induction n with
  | zero =>
    intro v1 m b h
    have h9 : (none : Option (Mem)) = some b := h
    cases h9
  | succ n ih => intro v1 m b h hE; exact t_X10_load_105 N Γ C (L_X10_load_105 N n) b hE ih v1 m h
def Ex_X10_load_132 (Γ : Gc) (cs : Nat) (b : Mem) : Prop := (∀  (m' : Mem), b = m' → G Γ 2 cs m' 152 [(0, .ref (oa (gw Γ) 95))] [])
set_option maxRecDepth 100000 in
set_option maxHeartbeats 4000000 in
theorem t_X10_load_132 (N : Nat) (Γ : Gc) (C : Cx Γ cX10_load 2 RX10 (rmK 6 133 0)) (rc : Int32 → Mem → Option (Mem)) (b : Mem) (hE : Ex_X10_load_132 Γ 0 b) (hrec : ∀ (v1 : Int32) (m : Mem) (b : Mem), rc v1 m = some b → Ex_X10_load_132 Γ 0 b → G Γ 2 0 m 132 [(0, .ref (oa (gw Γ) 95)), (1, .int v1)] []) (v1 : Int32) (m : Mem) (h : T_X10_load_132 N rc v1 m = some b) : G Γ 2 0 m 132 [(0, .ref (oa (gw Γ) 95)), (1, .int v1)] [] := by
  unfold T_X10_load_132 at h
  refine g_iload_n C dX10_load_132 1 rfl rfl ?_
  refine g_sipush (v := (218 : Int32)) C dX10_load_133 (by decide) ?_
  refine g_icmp_ge (tgt := 152) C dX10_load_136 (by decide) (fun c_24 => ?_) (fun c_24 => ?_)
  · replace h := it_t c_24 h
    obtain rfl := Option.some.inj h
    refine g_sub [0] rfl ?_
    exact hE _ rfl
  · replace h := it_f c_24 h
    refine g_aload_n C dX10_load_139 0 rfl rfl ?_
    refine g_getT (b := 98) (ci := 10) (j := 3) C dX10_load_140 rfl (by decide) rfl inT_X10 (by decide) k_588 rfl rfl rfl rfl ?_
    refine g_iload_n C dX10_load_143 1 rfl rfl ?_
    refine g_iconst (v := (0 : Int32)) C dX10_load_144 (by decide) ?_
    obtain ⟨g_22, h⟩ := gd_some h
    obtain ⟨m_23, e_23, h⟩ := wr_some h
    refine g_iast C dX10_load_145 (okA_of rfl rfl g_22) (G_m e_23 ?_)
    refine g_iinc (q := 1) (v := v1 + (1 : Int32)) (lv' := [(1, .int (v1 + (1 : Int32))), (0, .ref (oa (gw Γ) 95))]) C dX10_load_146 rfl rfl (by decide) rfl ?_
    refine g_goto (tgt := 132) C dX10_load_149 (by decide) ?_
    refine g_sub [1, 0] rfl ?_
    exact hrec (v1 + (1 : Int32)) m_23 b h hE
theorem lt_X10_load_132 (N : Nat) (Γ : Gc) (C : Cx Γ cX10_load 2 RX10 (rmK 6 133 0)) : ∀ (n : Nat) (v1 : Int32) (m : Mem) (b : Mem), L_X10_load_132 N n v1 m = some b → Ex_X10_load_132 Γ 0 b → G Γ 2 0 m 132 [(0, .ref (oa (gw Γ) 95)), (1, .int v1)] [] := by
  intro n
  induction n with
  | zero =>
    intro v1 m b h
    have h9 : (none : Option (Mem)) = some b := h
    cases h9
  | succ n ih => intro v1 m b h hE; exact t_X10_load_132 N Γ C (L_X10_load_132 N n) b hE ih v1 m h
def Ex_X10_load_166 (Γ : Gc) (cs : Nat) (b : Mem) : Prop := (∀  (m' : Mem), b = m' → G Γ 2 cs m' 196 [(0, .ref (oa (gw Γ) 95))] [])
set_option maxRecDepth 100000 in
set_option maxHeartbeats 4000000 in
theorem t_X10_load_166 (N : Nat) (Γ : Gc) (C : Cx Γ cX10_load 2 RX10 (rmK 6 133 0)) (rc : Int32 → Mem → Option (Mem)) (b : Mem) (hE : Ex_X10_load_166 Γ 0 b) (hrec : ∀ (v1 : Int32) (m : Mem) (b : Mem), rc v1 m = some b → Ex_X10_load_166 Γ 0 b → G Γ 2 0 m 166 [(0, .ref (oa (gw Γ) 95)), (1, .int v1)] []) (v1 : Int32) (m : Mem) (h : T_X10_load_166 N rc v1 m = some b) : G Γ 2 0 m 166 [(0, .ref (oa (gw Γ) 95)), (1, .int v1)] [] := by
  unfold T_X10_load_166 at h
  refine g_iload_n C dX10_load_166 1 rfl rfl ?_
  refine g_bipush (v := (12 : Int32)) C dX10_load_167 (by decide) ?_
  refine g_icmp_ge (tgt := 196) C dX10_load_169 (by decide) (fun c_30 => ?_) (fun c_30 => ?_)
  · replace h := it_t c_30 h
    obtain rfl := Option.some.inj h
    refine g_sub [0] rfl ?_
    exact hE _ rfl
  · replace h := it_f c_30 h
    refine g_aload_n C dX10_load_172 0 rfl rfl ?_
    refine g_getT (b := 98) (ci := 10) (j := 3) C dX10_load_173 rfl (by decide) rfl inT_X10 (by decide) k_588 rfl rfl rfl rfl ?_
    refine g_iconst (v := (2 : Int32)) C dX10_load_176 (by decide) ?_
    refine g_iload_n C dX10_load_177 1 rfl rfl ?_
    refine g_iadd C dX10_load_178 ?_
    refine g_aload_n C dX10_load_179 0 rfl rfl ?_
    refine g_getT (b := 96) (ci := 10) (j := 1) C dX10_load_180 rfl (by decide) rfl inT_X10 (by decide) k_506 rfl rfl rfl rfl ?_
    refine g_sipush (v := (139 : Int32)) C dX10_load_183 (by decide) ?_
    refine g_iload_n C dX10_load_186 1 rfl rfl ?_
    refine g_iadd C dX10_load_187 ?_
    obtain ⟨g_27, h⟩ := gd_some h
    refine g_iald C dX10_load_188 (okA_of rfl rfl g_27) ?_
    obtain ⟨g_28, h⟩ := gd_some h
    obtain ⟨m_29, e_29, h⟩ := wr_some h
    refine g_iast C dX10_load_189 (okA_of rfl rfl g_28) (G_m e_29 ?_)
    refine g_iinc (q := 1) (v := v1 + (1 : Int32)) (lv' := [(1, .int (v1 + (1 : Int32))), (0, .ref (oa (gw Γ) 95))]) C dX10_load_190 rfl rfl (by decide) rfl ?_
    refine g_goto (tgt := 166) C dX10_load_193 (by decide) ?_
    refine g_sub [1, 0] rfl ?_
    exact hrec (v1 + (1 : Int32)) m_29 b h hE
theorem lt_X10_load_166 (N : Nat) (Γ : Gc) (C : Cx Γ cX10_load 2 RX10 (rmK 6 133 0)) : ∀ (n : Nat) (v1 : Int32) (m : Mem) (b : Mem), L_X10_load_166 N n v1 m = some b → Ex_X10_load_166 Γ 0 b → G Γ 2 0 m 166 [(0, .ref (oa (gw Γ) 95)), (1, .int v1)] [] := by
  intro n
  induction n with
  | zero =>
    intro v1 m b h
    have h9 : (none : Option (Mem)) = some b := h
    cases h9
  | succ n ih => intro v1 m b h hE; exact t_X10_load_166 N Γ C (L_X10_load_166 N n) b hE ih v1 m h
set_option maxRecDepth 100000 in
set_option maxHeartbeats 4000000 in
theorem t_X10_load_85 (N : Nat) (Γ : Gc) (C : Cx Γ cX10_load 2 RX10 (rmK 6 133 0)) (b : Int32 × Mem) (hE : EIn Γ 2 cX10_load b)  (m : Mem) (h : B_X10_load_85 N  m = some b) : G Γ 2 0 m 85 [(0, .ref (oa (gw Γ) 95))] [] := by
  unfold B_X10_load_85 at h
  refine g_aload_n C dX10_load_85 0 rfl rfl ?_
  refine g_iconst (v := (0 : Int32)) C dX10_load_86 (by decide) ?_
  obtain ⟨m_17, e_17, h⟩ := wr_some h
  refine g_putI (ci := 10) (j := 7) C dX10_load_87 rfl (by decide) rfl inT_X10 (by decide) k_512 tyX10 tyX10_ok nmX10 rfl rfl rfl rfl rfl (G_m e_17 ?_)
  refine g_aload_n C dX10_load_90 0 rfl rfl ?_
  refine g_getI (ci := 10) (j := 11) C dX10_load_91 rfl (by decide) rfl inT_X10 (by decide) k_522 rfl rfl ?_
  refine g_if_eq (tgt := 103) C dX10_load_94 (by decide) (fun c_34 => ?_) (fun c_34 => ?_)
  · replace h := it_t c_34 h
    refine g_iconst (v := (0 : Int32)) C dX10_load_103 (by decide) ?_
    refine g_istore_n (lv' := [(1, .int (0 : Int32)), (0, .ref (oa (gw Γ) 95))]) C dX10_load_104 rfl (by decide) rfl ?_
    obtain ⟨m_21, hx, h⟩ := l1_some h
    refine g_sub [1, 0] rfl ?_
    refine lt_X10_load_105 N Γ C N (0 : Int32) m_17 _ hx ?_
    intro  m9 e9
    cases e9
    refine g_iconst (v := (0 : Int32)) C dX10_load_130 (by decide) ?_
    refine g_istore_n (lv' := [(1, .int (0 : Int32)), (0, .ref (oa (gw Γ) 95))]) C dX10_load_131 rfl (by decide) rfl ?_
    obtain ⟨m_25, hx, h⟩ := l1_some h
    refine g_sub [1, 0] rfl ?_
    refine lt_X10_load_132 N Γ C N (0 : Int32) m_21 _ hx ?_
    intro  m9 e9
    cases e9
    refine g_aload_n C dX10_load_152 0 rfl rfl ?_
    refine g_getT (b := 98) (ci := 10) (j := 3) C dX10_load_153 rfl (by decide) rfl inT_X10 (by decide) k_588 rfl rfl rfl rfl ?_
    refine g_iconst (v := (0 : Int32)) C dX10_load_156 (by decide) ?_
    refine g_aload_n C dX10_load_157 0 rfl rfl ?_
    refine g_getT (b := 96) (ci := 10) (j := 1) C dX10_load_158 rfl (by decide) rfl inT_X10 (by decide) k_506 rfl rfl rfl rfl ?_
    refine g_iconst (v := (4 : Int32)) C dX10_load_161 (by decide) ?_
    refine g_iald' (j := 4) C dX10_load_162 (okA_of rfl rfl (by decide)) (by decide) ?_
    obtain ⟨m_26, e_26, h⟩ := wr_some h
    refine g_iast' (j := 0) C dX10_load_163 (okA_of rfl rfl (by decide)) (by decide) (G_m e_26 ?_)
    refine g_iconst (v := (0 : Int32)) C dX10_load_164 (by decide) ?_
    refine g_istore_n (lv' := [(1, .int (0 : Int32)), (0, .ref (oa (gw Γ) 95))]) C dX10_load_165 rfl (by decide) rfl ?_
    obtain ⟨m_31, hx, h⟩ := l1_some h
    refine g_sub [1, 0] rfl ?_
    refine lt_X10_load_166 N Γ C N (0 : Int32) m_26 _ hx ?_
    intro  m9 e9
    cases e9
    refine g_aload_n C dX10_load_196 0 rfl rfl ?_
    refine g_iconst (v := (0 : Int32)) C dX10_load_197 (by decide) ?_
    obtain ⟨m_32, e_32, h⟩ := wr_some h
    refine g_putI (ci := 10) (j := 5) C dX10_load_198 rfl (by decide) rfl inT_X10 (by decide) k_589 tyX10 tyX10_ok nmX10 rfl rfl rfl rfl rfl (G_m e_32 ?_)
    refine g_aload_n C dX10_load_201 0 rfl rfl ?_
    refine g_getT (b := 96) (ci := 10) (j := 1) C dX10_load_202 rfl (by decide) rfl inT_X10 (by decide) k_506 rfl rfl rfl rfl ?_
    refine g_iconst (v := (2 : Int32)) C dX10_load_205 (by decide) ?_
    refine g_iald' (j := 2) C dX10_load_206 (okA_of rfl rfl (by decide)) (by decide) ?_
    obtain rfl := Option.some.inj h
    exact hE 207 _ dX10_load_207
  · replace h := it_f c_34 h
    refine g_aload_n C dX10_load_97 0 rfl rfl ?_
    refine g_iconst (v := (1 : Int32)) C dX10_load_98 (by decide) ?_
    obtain ⟨r_33, m_33, hk_33, h⟩ := b2_some h
    refine g_vI (As := [.int (1 : Int32)]) (a := 95) (ci := 10) C dX10_load_99 mf_X10_fails k_517 rfl (by decide) ⟨by decide, by decide⟩ rfl rfl (Nat.le_of_ble_eq_true rfl) (by decide) rfl (c_X10_fails N (gl Γ) C.2.2.2.2 (gw Γ) (1 : Int32) m_17 _ hk_33) ?_
    obtain rfl := Option.some.inj h
    exact hE 102 _ dX10_load_102
set_option maxRecDepth 100000 in
set_option maxHeartbeats 4000000 in
theorem t_X10_load (N : Nat) (Γ : Gc) (C : Cx Γ cX10_load 2 RX10 (rmK 6 133 0))  (m : Mem) (b : Int32 × Mem) (h : f_X10_load N  m = some b) (hE : EIn Γ 2 cX10_load b) : G Γ 2 0 m 0 [(0, .ref (oa (gw Γ) 95))] [] := by
  unfold f_X10_load at h
  refine g_aload_n C dX10_load_0 0 rfl rfl ?_
  refine g_iconst (v := (0 : Int32)) C dX10_load_1 (by decide) ?_
  obtain ⟨m_1, e_1, h⟩ := wr_some h
  refine g_putI (ci := 10) (j := 0) C dX10_load_2 rfl (by decide) rfl inT_X10 (by decide) k_505 tyX10 tyX10_ok nmX10 rfl rfl rfl rfl rfl (G_m e_1 ?_)
  refine g_aload_n C dX10_load_5 0 rfl rfl ?_
  refine g_iconst (v := (0 : Int32)) C dX10_load_6 (by decide) ?_
  obtain ⟨m_2, e_2, h⟩ := wr_some h
  refine g_putI (ci := 10) (j := 9) C dX10_load_7 rfl (by decide) rfl inT_X10 (by decide) k_523 tyX10 tyX10_ok nmX10 rfl rfl rfl rfl rfl (G_m e_2 ?_)
  refine g_aload_n C dX10_load_10 0 rfl rfl ?_
  refine g_iconst (v := (-1 : Int32)) C dX10_load_11 (by decide) ?_
  obtain ⟨m_3, e_3, h⟩ := wr_some h
  refine g_putI (ci := 10) (j := 10) C dX10_load_12 rfl (by decide) rfl inT_X10 (by decide) k_524 tyX10 tyX10_ok nmX10 rfl rfl rfl rfl rfl (G_m e_3 ?_)
  refine g_iconst (v := (0 : Int32)) C dX10_load_15 (by decide) ?_
  refine g_istore_n (lv' := [(1, .int (0 : Int32)), (0, .ref (oa (gw Γ) 95))]) C dX10_load_16 rfl (by decide) rfl ?_
  obtain ⟨m_7, hx, h⟩ := l1_some h
  refine g_sub [1, 0] rfl ?_
  refine lt_X10_load_17 N Γ C N (0 : Int32) m_3 _ hx ?_
  intro  m9 e9
  cases e9
  refine g_aload_n C dX10_load_37 0 rfl rfl ?_
  refine g_getT (b := 97) (ci := 10) (j := 2) C dX10_load_38 rfl (by decide) rfl inT_X10 (by decide) k_544 rfl rfl rfl rfl ?_
  refine g_iconst (v := (3 : Int32)) C dX10_load_41 (by decide) ?_
  refine g_iconst (v := (2 : Int32)) C dX10_load_42 (by decide) ?_
  obtain ⟨m_8, e_8, h⟩ := wr_some h
  refine g_iast' (j := 3) C dX10_load_43 (okA_of rfl rfl (by decide)) (by decide) (G_m e_8 ?_)
  refine g_aload_n C dX10_load_44 0 rfl rfl ?_
  refine g_getT (b := 97) (ci := 10) (j := 2) C dX10_load_45 rfl (by decide) rfl inT_X10 (by decide) k_544 rfl rfl rfl rfl ?_
  refine g_bipush (v := (6 : Int32)) C dX10_load_48 (by decide) ?_
  refine g_bipush (v := (20 : Int32)) C dX10_load_50 (by decide) ?_
  obtain ⟨m_9, e_9, h⟩ := wr_some h
  refine g_iast' (j := 6) C dX10_load_52 (okA_of rfl rfl (by decide)) (by decide) (G_m e_9 ?_)
  refine g_aload_n C dX10_load_53 0 rfl rfl ?_
  refine g_iconst (v := (0 : Int32)) C dX10_load_54 (by decide) ?_
  obtain ⟨m_10, e_10, h⟩ := wr_some h
  refine g_putI (ci := 10) (j := 8) C dX10_load_55 rfl (by decide) rfl inT_X10 (by decide) k_521 tyX10 tyX10_ok nmX10 rfl rfl rfl rfl rfl (G_m e_10 ?_)
  refine g_aload_n C dX10_load_58 0 rfl rfl ?_
  refine g_iconst (v := (0 : Int32)) C dX10_load_59 (by decide) ?_
  obtain ⟨m_11, e_11, h⟩ := wr_some h
  refine g_putI (ci := 10) (j := 11) C dX10_load_60 rfl (by decide) rfl inT_X10 (by decide) k_522 tyX10 tyX10_ok nmX10 rfl rfl rfl (isB_n (show isB (0 : Int32) = true by decide)) (isB_f (show isB (0 : Int32) = true by decide)) (G_m e_11 ?_)
  obtain ⟨m_16, hx, h⟩ := l1_some h
  refine g_sub [0] rfl ?_
  refine lt_X10_load_63 N Γ C N  m_11 _ hx ?_
  intro  m9 e9
  cases e9
  refine g_sub [0] rfl ?_
  exact t_X10_load_85 N Γ C b hE  m_16 h
theorem c_X10_load (N : Nat) (l : Launch) (hst : l.stackTraces = false) (w : Om)  (m : Mem) (o : Int32 × Mem) (h : f_X10_load N  m = some o) : KI l yX10_load cX10_load 2 (some .int) 6 133 w [.ref (oa w 95)] m o.1 o.2 := KI_of hst (by decide +kernel) RX10 rfl (Nat.le_of_ble_eq_true rfl) (fun Γ hw hl C hE => by
  subst hw; subst hl
  exact t_X10_load N Γ C  m o h hE)
set_option maxRecDepth 100000 in
set_option maxHeartbeats 4000000 in
theorem t_X10_errorCode (N : Nat) (Γ : Gc) (C : Cx Γ cX10_errorCode 1 RX10 (rmK 0 0 0))  (m : Mem) (b : Int32 × Mem) (h : f_X10_errorCode N  m = some b) (hE : EIn Γ 1 cX10_errorCode b) : G Γ 1 0 m 0 [(0, .ref (oa (gw Γ) 95))] [] := by
  unfold f_X10_errorCode at h
  refine g_aload_n C dX10_errorCode_0 0 rfl rfl ?_
  refine g_iconst (v := (0 : Int32)) C dX10_errorCode_1 (by decide) ?_
  obtain ⟨m_1, e_1, h⟩ := wr_some h
  refine g_putI (ci := 10) (j := 0) C dX10_errorCode_2 rfl (by decide) rfl inT_X10 (by decide) k_505 tyX10 tyX10_ok nmX10 rfl rfl rfl rfl rfl (G_m e_1 ?_)
  refine g_aload_n C dX10_errorCode_5 0 rfl rfl ?_
  refine g_getI (ci := 10) (j := 9) C dX10_errorCode_6 rfl (by decide) rfl inT_X10 (by decide) k_523 rfl rfl ?_
  obtain rfl := Option.some.inj h
  exact hE 9 _ dX10_errorCode_9
theorem c_X10_errorCode (N : Nat) (l : Launch) (hst : l.stackTraces = false) (w : Om)  (m : Mem) (o : Int32 × Mem) (h : f_X10_errorCode N  m = some o) : KI l yX10_errorCode cX10_errorCode 1 (some .int) 0 0 w [.ref (oa w 95)] m o.1 o.2 := KI_of hst (by decide +kernel) RX10 rfl (Nat.le_of_ble_eq_true rfl) (fun Γ hw hl C hE => by
  subst hw; subst hl
  exact t_X10_errorCode N Γ C  m o h hE)
set_option maxRecDepth 100000 in
set_option maxHeartbeats 4000000 in
theorem t_X10_errorPosition (N : Nat) (Γ : Gc) (C : Cx Γ cX10_errorPosition 1 RX10 (rmK 0 0 0))  (m : Mem) (b : Int32 × Mem) (h : f_X10_errorPosition N  m = some b) (hE : EIn Γ 1 cX10_errorPosition b) : G Γ 1 0 m 0 [(0, .ref (oa (gw Γ) 95))] [] := by
  unfold f_X10_errorPosition at h
  refine g_aload_n C dX10_errorPosition_0 0 rfl rfl ?_
  refine g_iconst (v := (0 : Int32)) C dX10_errorPosition_1 (by decide) ?_
  obtain ⟨m_1, e_1, h⟩ := wr_some h
  refine g_putI (ci := 10) (j := 0) C dX10_errorPosition_2 rfl (by decide) rfl inT_X10 (by decide) k_505 tyX10 tyX10_ok nmX10 rfl rfl rfl rfl rfl (G_m e_1 ?_)
  refine g_aload_n C dX10_errorPosition_5 0 rfl rfl ?_
  refine g_getI (ci := 10) (j := 10) C dX10_errorPosition_6 rfl (by decide) rfl inT_X10 (by decide) k_524 rfl rfl ?_
  obtain rfl := Option.some.inj h
  exact hE 9 _ dX10_errorPosition_9
theorem c_X10_errorPosition (N : Nat) (l : Launch) (hst : l.stackTraces = false) (w : Om)  (m : Mem) (o : Int32 × Mem) (h : f_X10_errorPosition N  m = some o) : KI l yX10_errorPosition cX10_errorPosition 1 (some .int) 0 0 w [.ref (oa w 95)] m o.1 o.2 := KI_of hst (by decide +kernel) RX10 rfl (Nat.le_of_ble_eq_true rfl) (fun Γ hw hl C hE => by
  subst hw; subst hl
  exact t_X10_errorPosition N Γ C  m o h hE)
def Ex_X10_keeps_57 (Γ : Gc) (cs : Nat) (b : Mem) : Prop := (∀  (m' : Mem), b = m' → G Γ 2 cs m' 91 [(0, .ref (oa (gw Γ) 95))] [])
set_option maxRecDepth 100000 in
set_option maxHeartbeats 4000000 in
theorem t_X10_keeps_57 (N : Nat) (Γ : Gc) (C : Cx Γ cX10_keeps 2 RX10 (rmK 0 0 0)) (rc : Int32 → Mem → Option (Mem)) (b : Mem) (hE : Ex_X10_keeps_57 Γ 0 b) (hrec : ∀ (v1 : Int32) (m : Mem) (b : Mem), rc v1 m = some b → Ex_X10_keeps_57 Γ 0 b → G Γ 2 0 m 57 [(0, .ref (oa (gw Γ) 95)), (1, .int v1)] []) (v1 : Int32) (m : Mem) (h : T_X10_keeps_57 N rc v1 m = some b) : G Γ 2 0 m 57 [(0, .ref (oa (gw Γ) 95)), (1, .int v1)] [] := by
  unfold T_X10_keeps_57 at h
  refine g_iload_n C dX10_keeps_57 1 rfl rfl ?_
  refine g_sipush (v := (218 : Int32)) C dX10_keeps_58 (by decide) ?_
  refine g_icmp_ge (tgt := 91) C dX10_keeps_61 (by decide) (fun c_4 => ?_) (fun c_4 => ?_)
  · replace h := it_t c_4 h
    obtain rfl := Option.some.inj h
    refine g_sub [0] rfl ?_
    exact hE _ rfl
  · replace h := it_f c_4 h
    refine g_aload_n C dX10_keeps_64 0 rfl rfl ?_
    refine g_getT (b := 99) (ci := 10) (j := 4) C dX10_keeps_65 rfl (by decide) rfl inT_X10 (by decide) k_590 rfl rfl rfl rfl ?_
    refine g_sipush (v := (218 : Int32)) C dX10_keeps_68 (by decide) ?_
    refine g_aload_n C dX10_keeps_71 0 rfl rfl ?_
    refine g_getI (ci := 10) (j := 5) C dX10_keeps_72 rfl (by decide) rfl inT_X10 (by decide) k_589 rfl rfl ?_
    refine g_imul C dX10_keeps_75 ?_
    refine g_iload_n C dX10_keeps_76 1 rfl rfl ?_
    refine g_iadd C dX10_keeps_77 ?_
    refine g_aload_n C dX10_keeps_78 0 rfl rfl ?_
    refine g_getT (b := 98) (ci := 10) (j := 3) C dX10_keeps_79 rfl (by decide) rfl inT_X10 (by decide) k_588 rfl rfl rfl rfl ?_
    refine g_iload_n C dX10_keeps_82 1 rfl rfl ?_
    obtain ⟨g_1, h⟩ := gd_some h
    refine g_iald C dX10_keeps_83 (okA_of rfl rfl g_1) ?_
    obtain ⟨g_2, h⟩ := gd_some h
    obtain ⟨m_3, e_3, h⟩ := wr_some h
    refine g_iast C dX10_keeps_84 (okA_of rfl rfl g_2) (G_m e_3 ?_)
    refine g_iinc (q := 1) (v := v1 + (1 : Int32)) (lv' := [(1, .int (v1 + (1 : Int32))), (0, .ref (oa (gw Γ) 95))]) C dX10_keeps_85 rfl rfl (by decide) rfl ?_
    refine g_goto (tgt := 57) C dX10_keeps_88 (by decide) ?_
    refine g_sub [1, 0] rfl ?_
    exact hrec (v1 + (1 : Int32)) m_3 b h hE
theorem lt_X10_keeps_57 (N : Nat) (Γ : Gc) (C : Cx Γ cX10_keeps 2 RX10 (rmK 0 0 0)) : ∀ (n : Nat) (v1 : Int32) (m : Mem) (b : Mem), L_X10_keeps_57 N n v1 m = some b → Ex_X10_keeps_57 Γ 0 b → G Γ 2 0 m 57 [(0, .ref (oa (gw Γ) 95)), (1, .int v1)] [] := by
  intro n
  induction n with
  | zero =>
    intro v1 m b h
    have h9 : (none : Option (Mem)) = some b := h
    cases h9
  | succ n ih => intro v1 m b h hE; exact t_X10_keeps_57 N Γ C (L_X10_keeps_57 N n) b hE ih v1 m h
set_option maxRecDepth 100000 in
set_option maxHeartbeats 4000000 in
theorem t_X10_keeps_55 (N : Nat) (Γ : Gc) (C : Cx Γ cX10_keeps 2 RX10 (rmK 0 0 0)) (b : Mem) (hE : EVn Γ 2 cX10_keeps b)  (m : Mem) (h : B_X10_keeps_55 N  m = some b) : G Γ 2 0 m 55 [(0, .ref (oa (gw Γ) 95))] [] := by
  unfold B_X10_keeps_55 at h
  refine g_iconst (v := (0 : Int32)) C dX10_keeps_55 (by decide) ?_
  refine g_istore_n (lv' := [(1, .int (0 : Int32)), (0, .ref (oa (gw Γ) 95))]) C dX10_keeps_56 rfl (by decide) rfl ?_
  obtain ⟨m_5, hx, h⟩ := l1_some h
  refine g_sub [1, 0] rfl ?_
  refine lt_X10_keeps_57 N Γ C N (0 : Int32) m _ hx ?_
  intro  m9 e9
  cases e9
  refine g_aload_n C dX10_keeps_91 0 rfl rfl ?_
  refine g_dup C dX10_keeps_92 rfl ?_
  refine g_getI (ci := 10) (j := 5) C dX10_keeps_93 rfl (by decide) rfl inT_X10 (by decide) k_589 rfl rfl ?_
  refine g_iconst (v := (1 : Int32)) C dX10_keeps_96 (by decide) ?_
  refine g_iadd C dX10_keeps_97 ?_
  obtain ⟨m_6, e_6, h⟩ := wr_some h
  refine g_putI (ci := 10) (j := 5) C dX10_keeps_98 rfl (by decide) rfl inT_X10 (by decide) k_589 tyX10 tyX10_ok nmX10 rfl rfl rfl rfl rfl (G_m e_6 ?_)
  obtain rfl := Option.some.inj h
  exact hE 101 _ dX10_keeps_101
def Ex_X10_keeps_21 (Γ : Gc) (cs : Nat) (b : Mem) : Prop := (∀  (m' : Mem), b = m' → G Γ 2 cs m' 55 [(0, .ref (oa (gw Γ) 95))] [])
set_option maxRecDepth 100000 in
set_option maxHeartbeats 4000000 in
theorem t_X10_keeps_21 (N : Nat) (Γ : Gc) (C : Cx Γ cX10_keeps 2 RX10 (rmK 0 0 0)) (rc : Int32 → Mem → Option (Mem)) (b : Mem) (hE : Ex_X10_keeps_21 Γ 0 b) (hrec : ∀ (v1 : Int32) (m : Mem) (b : Mem), rc v1 m = some b → Ex_X10_keeps_21 Γ 0 b → G Γ 2 0 m 21 [(0, .ref (oa (gw Γ) 95)), (1, .int v1)] []) (v1 : Int32) (m : Mem) (h : T_X10_keeps_21 N rc v1 m = some b) : G Γ 2 0 m 21 [(0, .ref (oa (gw Γ) 95)), (1, .int v1)] [] := by
  unfold T_X10_keeps_21 at h
  refine g_iload_n C dX10_keeps_21 1 rfl rfl ?_
  refine g_aload_n C dX10_keeps_22 0 rfl rfl ?_
  refine g_getI (ci := 10) (j := 5) C dX10_keeps_23 rfl (by decide) rfl inT_X10 (by decide) k_589 rfl rfl ?_
  refine g_sipush (v := (218 : Int32)) C dX10_keeps_26 (by decide) ?_
  refine g_imul C dX10_keeps_29 ?_
  refine g_icmp_ge (tgt := 55) C dX10_keeps_30 (by decide) (fun c_11 => ?_) (fun c_11 => ?_)
  · replace h := it_t c_11 h
    obtain rfl := Option.some.inj h
    refine g_sub [0] rfl ?_
    exact hE _ rfl
  · replace h := it_f c_11 h
    refine g_aload_n C dX10_keeps_33 0 rfl rfl ?_
    refine g_getT (b := 99) (ci := 10) (j := 4) C dX10_keeps_34 rfl (by decide) rfl inT_X10 (by decide) k_590 rfl rfl rfl rfl ?_
    refine g_iload_n C dX10_keeps_37 1 rfl rfl ?_
    refine g_aload_n C dX10_keeps_38 0 rfl rfl ?_
    refine g_getT (b := 99) (ci := 10) (j := 4) C dX10_keeps_39 rfl (by decide) rfl inT_X10 (by decide) k_590 rfl rfl rfl rfl ?_
    refine g_iload_n C dX10_keeps_42 1 rfl rfl ?_
    refine g_sipush (v := (218 : Int32)) C dX10_keeps_43 (by decide) ?_
    refine g_iadd C dX10_keeps_46 ?_
    obtain ⟨g_8, h⟩ := gd_some h
    refine g_iald C dX10_keeps_47 (okA_of rfl rfl g_8) ?_
    obtain ⟨g_9, h⟩ := gd_some h
    obtain ⟨m_10, e_10, h⟩ := wr_some h
    refine g_iast C dX10_keeps_48 (okA_of rfl rfl g_9) (G_m e_10 ?_)
    refine g_iinc (q := 1) (v := v1 + (1 : Int32)) (lv' := [(1, .int (v1 + (1 : Int32))), (0, .ref (oa (gw Γ) 95))]) C dX10_keeps_49 rfl rfl (by decide) rfl ?_
    refine g_goto (tgt := 21) C dX10_keeps_52 (by decide) ?_
    refine g_sub [1, 0] rfl ?_
    exact hrec (v1 + (1 : Int32)) m_10 b h hE
theorem lt_X10_keeps_21 (N : Nat) (Γ : Gc) (C : Cx Γ cX10_keeps 2 RX10 (rmK 0 0 0)) : ∀ (n : Nat) (v1 : Int32) (m : Mem) (b : Mem), L_X10_keeps_21 N n v1 m = some b → Ex_X10_keeps_21 Γ 0 b → G Γ 2 0 m 21 [(0, .ref (oa (gw Γ) 95)), (1, .int v1)] [] := by
  intro n
  induction n with
  | zero =>
    intro v1 m b h
    have h9 : (none : Option (Mem)) = some b := h
    cases h9
  | succ n ih => intro v1 m b h hE; exact t_X10_keeps_21 N Γ C (L_X10_keeps_21 N n) b hE ih v1 m h
set_option maxRecDepth 100000 in
set_option maxHeartbeats 4000000 in
theorem t_X10_keeps (N : Nat) (Γ : Gc) (C : Cx Γ cX10_keeps 2 RX10 (rmK 0 0 0))  (m : Mem) (b : Mem) (h : f_X10_keeps N  m = some b) (hE : EVn Γ 2 cX10_keeps b) : G Γ 2 0 m 0 [(0, .ref (oa (gw Γ) 95))] [] := by
  unfold f_X10_keeps at h
  refine g_aload_n C dX10_keeps_0 0 rfl rfl ?_
  refine g_getI (ci := 10) (j := 5) C dX10_keeps_1 rfl (by decide) rfl inT_X10 (by decide) k_589 rfl rfl ?_
  refine g_bipush (v := (10 : Int32)) C dX10_keeps_4 (by decide) ?_
  refine g_icmp_ne (tgt := 55) C dX10_keeps_6 (by decide) (fun c_13 => ?_) (fun c_13 => ?_)
  · replace h := it_f c_13 h
    refine g_sub [0] rfl ?_
    exact t_X10_keeps_55 N Γ C b hE  m h
  · replace h := it_t c_13 h
    refine g_aload_n C dX10_keeps_9 0 rfl rfl ?_
    refine g_dup C dX10_keeps_10 rfl ?_
    refine g_getI (ci := 10) (j := 5) C dX10_keeps_11 rfl (by decide) rfl inT_X10 (by decide) k_589 rfl rfl ?_
    refine g_iconst (v := (1 : Int32)) C dX10_keeps_14 (by decide) ?_
    refine g_isub C dX10_keeps_15 ?_
    obtain ⟨m_7, e_7, h⟩ := wr_some h
    refine g_putI (ci := 10) (j := 5) C dX10_keeps_16 rfl (by decide) rfl inT_X10 (by decide) k_589 tyX10 tyX10_ok nmX10 rfl rfl rfl rfl rfl (G_m e_7 ?_)
    refine g_iconst (v := (0 : Int32)) C dX10_keeps_19 (by decide) ?_
    refine g_istore_n (lv' := [(1, .int (0 : Int32)), (0, .ref (oa (gw Γ) 95))]) C dX10_keeps_20 rfl (by decide) rfl ?_
    obtain ⟨m_12, hx, h⟩ := l1_some h
    refine g_sub [1, 0] rfl ?_
    refine lt_X10_keeps_21 N Γ C N (0 : Int32) m_7 _ hx ?_
    intro  m9 e9
    cases e9
    refine g_sub [0] rfl ?_
    exact t_X10_keeps_55 N Γ C b hE  m_12 h
theorem c_X10_keeps (N : Nat) (l : Launch) (hst : l.stackTraces = false) (w : Om)  (m : Mem) (o : Mem) (h : f_X10_keeps N  m = some o) : KV l yX10_keeps cX10_keeps 2 none 0 0 w [.ref (oa w 95)] m o := KV_of hst (by decide +kernel) RX10 rfl (Nat.le_of_ble_eq_true rfl) (fun Γ hw hl C hE => by
  subst hw; subst hl
  exact t_X10_keeps N Γ C  m o h hE)
def Ex_X10_undo_37 (Γ : Gc) (cs : Nat) (b : Mem) : Prop := (∀  (m' : Mem), b = m' → G Γ 2 cs m' 71 [(0, .ref (oa (gw Γ) 95))] [])
set_option maxRecDepth 100000 in
set_option maxHeartbeats 4000000 in
theorem t_X10_undo_37 (N : Nat) (Γ : Gc) (C : Cx Γ cX10_undo 2 RX10 (rmK 0 0 0)) (rc : Int32 → Mem → Option (Mem)) (b : Mem) (hE : Ex_X10_undo_37 Γ 0 b) (hrec : ∀ (v1 : Int32) (m : Mem) (b : Mem), rc v1 m = some b → Ex_X10_undo_37 Γ 0 b → G Γ 2 0 m 37 [(0, .ref (oa (gw Γ) 95)), (1, .int v1)] []) (v1 : Int32) (m : Mem) (h : T_X10_undo_37 N rc v1 m = some b) : G Γ 2 0 m 37 [(0, .ref (oa (gw Γ) 95)), (1, .int v1)] [] := by
  unfold T_X10_undo_37 at h
  refine g_iload_n C dX10_undo_37 1 rfl rfl ?_
  refine g_sipush (v := (218 : Int32)) C dX10_undo_38 (by decide) ?_
  refine g_icmp_ge (tgt := 71) C dX10_undo_41 (by decide) (fun c_6 => ?_) (fun c_6 => ?_)
  · replace h := it_t c_6 h
    obtain rfl := Option.some.inj h
    refine g_sub [0] rfl ?_
    exact hE _ rfl
  · replace h := it_f c_6 h
    refine g_aload_n C dX10_undo_44 0 rfl rfl ?_
    refine g_getT (b := 98) (ci := 10) (j := 3) C dX10_undo_45 rfl (by decide) rfl inT_X10 (by decide) k_588 rfl rfl rfl rfl ?_
    refine g_iload_n C dX10_undo_48 1 rfl rfl ?_
    refine g_aload_n C dX10_undo_49 0 rfl rfl ?_
    refine g_getT (b := 99) (ci := 10) (j := 4) C dX10_undo_50 rfl (by decide) rfl inT_X10 (by decide) k_590 rfl rfl rfl rfl ?_
    refine g_sipush (v := (218 : Int32)) C dX10_undo_53 (by decide) ?_
    refine g_aload_n C dX10_undo_56 0 rfl rfl ?_
    refine g_getI (ci := 10) (j := 5) C dX10_undo_57 rfl (by decide) rfl inT_X10 (by decide) k_589 rfl rfl ?_
    refine g_imul C dX10_undo_60 ?_
    refine g_iload_n C dX10_undo_61 1 rfl rfl ?_
    refine g_iadd C dX10_undo_62 ?_
    obtain ⟨g_3, h⟩ := gd_some h
    refine g_iald C dX10_undo_63 (okA_of rfl rfl g_3) ?_
    obtain ⟨g_4, h⟩ := gd_some h
    obtain ⟨m_5, e_5, h⟩ := wr_some h
    refine g_iast C dX10_undo_64 (okA_of rfl rfl g_4) (G_m e_5 ?_)
    refine g_iinc (q := 1) (v := v1 + (1 : Int32)) (lv' := [(1, .int (v1 + (1 : Int32))), (0, .ref (oa (gw Γ) 95))]) C dX10_undo_65 rfl rfl (by decide) rfl ?_
    refine g_goto (tgt := 37) C dX10_undo_68 (by decide) ?_
    refine g_sub [1, 0] rfl ?_
    exact hrec (v1 + (1 : Int32)) m_5 b h hE
theorem lt_X10_undo_37 (N : Nat) (Γ : Gc) (C : Cx Γ cX10_undo 2 RX10 (rmK 0 0 0)) : ∀ (n : Nat) (v1 : Int32) (m : Mem) (b : Mem), L_X10_undo_37 N n v1 m = some b → Ex_X10_undo_37 Γ 0 b → G Γ 2 0 m 37 [(0, .ref (oa (gw Γ) 95)), (1, .int v1)] [] := by
  intro n
  induction n with
  | zero =>
    intro v1 m b h
    have h9 : (none : Option (Mem)) = some b := h
    cases h9
  | succ n ih => intro v1 m b h hE; exact t_X10_undo_37 N Γ C (L_X10_undo_37 N n) b hE ih v1 m h
set_option maxRecDepth 100000 in
set_option maxHeartbeats 4000000 in
theorem t_X10_undo_13 (N : Nat) (Γ : Gc) (C : Cx Γ cX10_undo 2 RX10 (rmK 0 0 0)) (b : Int32 × Mem) (hE : EIn Γ 2 cX10_undo b) (s0 : Int32) (m : Mem) (h : B_X10_undo_13 N s0 m = some b) : G Γ 2 0 m 13 [(0, .ref (oa (gw Γ) 95))] [.int s0, .ref (oa (gw Γ) 95)] := by
  unfold B_X10_undo_13 at h
  obtain ⟨m_1, e_1, h⟩ := wr_some h
  refine g_putI (ci := 10) (j := 0) C dX10_undo_13 rfl (by decide) rfl inT_X10 (by decide) k_505 tyX10 tyX10_ok nmX10 rfl rfl rfl rfl rfl (G_m e_1 ?_)
  refine g_aload_n C dX10_undo_16 0 rfl rfl ?_
  refine g_getI (ci := 10) (j := 0) C dX10_undo_17 rfl (by decide) rfl inT_X10 (by decide) k_505 rfl rfl ?_
  refine g_if_le (tgt := 25) C dX10_undo_20 (by decide) (fun c_8 => ?_) (fun c_8 => ?_)
  · replace h := it_t c_8 h
    refine g_aload_n C dX10_undo_25 0 rfl rfl ?_
    refine g_dup C dX10_undo_26 rfl ?_
    refine g_getI (ci := 10) (j := 5) C dX10_undo_27 rfl (by decide) rfl inT_X10 (by decide) k_589 rfl rfl ?_
    refine g_iconst (v := (1 : Int32)) C dX10_undo_30 (by decide) ?_
    refine g_isub C dX10_undo_31 ?_
    obtain ⟨m_2, e_2, h⟩ := wr_some h
    refine g_putI (ci := 10) (j := 5) C dX10_undo_32 rfl (by decide) rfl inT_X10 (by decide) k_589 tyX10 tyX10_ok nmX10 rfl rfl rfl rfl rfl (G_m e_2 ?_)
    refine g_iconst (v := (0 : Int32)) C dX10_undo_35 (by decide) ?_
    refine g_istore_n (lv' := [(1, .int (0 : Int32)), (0, .ref (oa (gw Γ) 95))]) C dX10_undo_36 rfl (by decide) rfl ?_
    obtain ⟨m_7, hx, h⟩ := l1_some h
    refine g_sub [1, 0] rfl ?_
    refine lt_X10_undo_37 N Γ C N (0 : Int32) m_2 _ hx ?_
    intro  m9 e9
    cases e9
    refine g_aload_n C dX10_undo_71 0 rfl rfl ?_
    refine g_getI (ci := 10) (j := 5) C dX10_undo_72 rfl (by decide) rfl inT_X10 (by decide) k_589 rfl rfl ?_
    obtain rfl := Option.some.inj h
    exact hE 75 _ dX10_undo_75
  · replace h := it_f c_8 h
    refine g_iconst (v := (0 : Int32)) C dX10_undo_23 (by decide) ?_
    obtain rfl := Option.some.inj h
    exact hE 24 _ dX10_undo_24
set_option maxRecDepth 100000 in
set_option maxHeartbeats 4000000 in
theorem t_X10_undo (N : Nat) (Γ : Gc) (C : Cx Γ cX10_undo 2 RX10 (rmK 0 0 0))  (m : Mem) (b : Int32 × Mem) (h : f_X10_undo N  m = some b) (hE : EIn Γ 2 cX10_undo b) : G Γ 2 0 m 0 [(0, .ref (oa (gw Γ) 95))] [] := by
  unfold f_X10_undo at h
  refine g_aload_n C dX10_undo_0 0 rfl rfl ?_
  refine g_aload_n C dX10_undo_1 0 rfl rfl ?_
  refine g_getI (ci := 10) (j := 5) C dX10_undo_2 rfl (by decide) rfl inT_X10 (by decide) k_589 rfl rfl ?_
  refine g_if_ne (tgt := 12) C dX10_undo_5 (by decide) (fun c_9 => ?_) (fun c_9 => ?_)
  · replace h := it_f c_9 h
    refine g_iconst (v := (0 : Int32)) C dX10_undo_12 (by decide) ?_
    refine g_sub [0] rfl ?_
    exact t_X10_undo_13 N Γ C b hE (0 : Int32) m h
  · replace h := it_t c_9 h
    refine g_iconst (v := (1 : Int32)) C dX10_undo_8 (by decide) ?_
    refine g_goto (tgt := 13) C dX10_undo_9 (by decide) ?_
    refine g_sub [0] rfl ?_
    exact t_X10_undo_13 N Γ C b hE (1 : Int32) m h
theorem c_X10_undo (N : Nat) (l : Launch) (hst : l.stackTraces = false) (w : Om)  (m : Mem) (o : Int32 × Mem) (h : f_X10_undo N  m = some o) : KI l yX10_undo cX10_undo 2 (some .int) 0 0 w [.ref (oa w 95)] m o.1 o.2 := KI_of hst (by decide +kernel) RX10 rfl (Nat.le_of_ble_eq_true rfl) (fun Γ hw hl C hE => by
  subst hw; subst hl
  exact t_X10_undo N Γ C  m o h hE)
set_option maxRecDepth 100000 in
set_option maxHeartbeats 4000000 in
theorem t_X10_isReview (N : Nat) (Γ : Gc) (C : Cx Γ cX10_isReview 3 RX10 (rmK 1 21 0)) (v1 : Int32) (v2 : Int32) (m : Mem) (b : Int32 × Mem) (h : f_X10_isReview N v1 v2 m = some b) (hE : EZn Γ 3 cX10_isReview b) : G Γ 3 0 m 0 [(0, .ref (oa (gw Γ) 95)), (1, .int v1), (2, .int v2)] [] := by
  unfold f_X10_isReview at h
  refine g_aload_n C dX10_isReview_0 0 rfl rfl ?_
  refine g_getT (b := 98) (ci := 10) (j := 3) C dX10_isReview_1 rfl (by decide) rfl inT_X10 (by decide) k_588 rfl rfl rfl rfl ?_
  refine g_bipush (v := (14 : Int32)) C dX10_isReview_4 (by decide) ?_
  refine g_iload_n C dX10_isReview_6 1 rfl rfl ?_
  refine g_iadd C dX10_isReview_7 ?_
  obtain ⟨g_1, h⟩ := gd_some h
  refine g_iald C dX10_isReview_8 (okA_of rfl rfl g_1) ?_
  refine g_iload_n C dX10_isReview_9 2 rfl rfl ?_
  obtain ⟨r_2, m_2, hk_2, h⟩ := b2_some h
  refine g_sI (As := [.int (gI m 98 ((14 : Int32) + v1).toNatClampNeg), .int v2]) C dX10_isReview_10 mf_X10_has k_591 ⟨by decide, by decide⟩ rfl rfl (Nat.le_of_ble_eq_true rfl) (by decide) (c_X10_has N (gl Γ) C.2.2.2.2 (gw Γ) (gI m 98 ((14 : Int32) + v1).toNatClampNeg) v2 m _ hk_2) ?_
  obtain ⟨g_3, h⟩ := gd_some h
  obtain rfl := Option.some.inj h
  exact hE 13 _ g_3 dX10_isReview_13
theorem c_X10_isReview (N : Nat) (l : Launch) (hst : l.stackTraces = false) (w : Om) (v1 : Int32) (v2 : Int32) (m : Mem) (o : Int32 × Mem) (h : f_X10_isReview N v1 v2 m = some o) : KI l yX10_isReview cX10_isReview 3 (some .boolean) 1 21 w [.ref (oa w 95), .int v1, .int v2] m o.1 o.2 := KZ_of hst (by decide +kernel) RX10 rfl (Nat.le_of_ble_eq_true rfl) (fun Γ hw hl C hE => by
  subst hw; subst hl
  exact t_X10_isReview N Γ C v1 v2 m o h hE)
set_option maxRecDepth 100000 in
set_option maxHeartbeats 4000000 in
theorem t_X10_score (N : Nat) (Γ : Gc) (C : Cx Γ cX10_score 3 RX10 (rmK 0 0 0)) (v1 : Int32) (v2 : Int32) (m : Mem) (b : Int32 × Mem) (h : f_X10_score N v1 v2 m = some b) (hE : EIn Γ 3 cX10_score b) : G Γ 3 0 m 0 [(0, .ref (oa (gw Γ) 95)), (1, .int v1), (2, .int v2)] [] := by
  unfold f_X10_score at h
  refine g_aload_n C dX10_score_0 0 rfl rfl ?_
  refine g_getT (b := 98) (ci := 10) (j := 3) C dX10_score_1 rfl (by decide) rfl inT_X10 (by decide) k_588 rfl rfl rfl rfl ?_
  refine g_bipush (v := (26 : Int32)) C dX10_score_4 (by decide) ?_
  refine g_bipush (v := (16 : Int32)) C dX10_score_6 (by decide) ?_
  refine g_iload_n C dX10_score_8 1 rfl rfl ?_
  refine g_imul C dX10_score_9 ?_
  refine g_iadd C dX10_score_10 ?_
  refine g_iload_n C dX10_score_11 2 rfl rfl ?_
  refine g_iadd C dX10_score_12 ?_
  obtain ⟨g_1, h⟩ := gd_some h
  refine g_iald C dX10_score_13 (okA_of rfl rfl g_1) ?_
  obtain rfl := Option.some.inj h
  exact hE 14 _ dX10_score_14
theorem c_X10_score (N : Nat) (l : Launch) (hst : l.stackTraces = false) (w : Om) (v1 : Int32) (v2 : Int32) (m : Mem) (o : Int32 × Mem) (h : f_X10_score N v1 v2 m = some o) : KI l yX10_score cX10_score 3 (some .int) 0 0 w [.ref (oa w 95), .int v1, .int v2] m o.1 o.2 := KI_of hst (by decide +kernel) RX10 rfl (Nat.le_of_ble_eq_true rfl) (fun Γ hw hl C hE => by
  subst hw; subst hl
  exact t_X10_score N Γ C v1 v2 m o h hE)
def Ex_X10_reviewsOf_4 (Γ : Gc) (cs : Nat) (b : Int32 × Mem) : Prop := (∀ (y2 : Int32) (m' : Mem), b = (y2, m') → G Γ 4 cs m' 37 [(2, .int y2)] [])
set_option maxRecDepth 100000 in
set_option maxHeartbeats 4000000 in
theorem t_X10_reviewsOf_4 (N : Nat) (Γ : Gc) (C : Cx Γ cX10_reviewsOf 4 RX10 (rmK 2 43 0)) (rc : Int32 → Int32 → Int32 → Mem → Option (Int32 × Mem)) (b : Int32 × Mem) (hE : Ex_X10_reviewsOf_4 Γ 0 b) (hrec : ∀ (v1 : Int32) (v2 : Int32) (v3 : Int32) (m : Mem) (b : Int32 × Mem), rc v1 v2 v3 m = some b → Ex_X10_reviewsOf_4 Γ 0 b → G Γ 4 0 m 4 [(0, .ref (oa (gw Γ) 95)), (1, .int v1), (2, .int v2), (3, .int v3)] []) (v1 : Int32) (v2 : Int32) (v3 : Int32) (m : Mem) (h : T_X10_reviewsOf_4 N rc v1 v2 v3 m = some b) : G Γ 4 0 m 4 [(0, .ref (oa (gw Γ) 95)), (1, .int v1), (2, .int v2), (3, .int v3)] [] := by
  unfold T_X10_reviewsOf_4 at h
  refine g_iload_n C dX10_reviewsOf_4 3 rfl rfl ?_
  refine g_aload_n C dX10_reviewsOf_5 0 rfl rfl ?_
  refine g_getT (b := 96) (ci := 10) (j := 1) C dX10_reviewsOf_6 rfl (by decide) rfl inT_X10 (by decide) k_506 rfl rfl rfl rfl ?_
  refine g_iconst (v := (1 : Int32)) C dX10_reviewsOf_9 (by decide) ?_
  refine g_iald' (j := 1) C dX10_reviewsOf_10 (okA_of rfl rfl (by decide)) (by decide) ?_
  refine g_icmp_ge (tgt := 37) C dX10_reviewsOf_11 (by decide) (fun c_3 => ?_) (fun c_3 => ?_)
  · replace h := it_t c_3 h
    obtain rfl := Option.some.inj h
    refine g_sub [2] rfl ?_
    exact hE _ _ rfl
  · replace h := it_f c_3 h
    refine g_iload_n C dX10_reviewsOf_14 2 rfl rfl ?_
    refine g_aload_n C dX10_reviewsOf_15 0 rfl rfl ?_
    refine g_iload_n C dX10_reviewsOf_16 3 rfl rfl ?_
    refine g_iload_n C dX10_reviewsOf_17 1 rfl rfl ?_
    obtain ⟨r_1, m_1, hk_1, h⟩ := b2_some h
    refine g_vI (As := [.int v3, .int v1]) (a := 95) (ci := 10) C dX10_reviewsOf_18 mf_X10_isReview k_594 rfl (by decide) ⟨by decide, by decide⟩ rfl rfl (Nat.le_of_ble_eq_true rfl) (by decide) rfl (c_X10_isReview N (gl Γ) C.2.2.2.2 (gw Γ) v3 v1 m _ hk_1) ?_
    refine g_if_eq (tgt := 28) C dX10_reviewsOf_21 (by decide) (fun c_2 => ?_) (fun c_2 => ?_)
    · replace h := it_t c_2 h
      refine g_iconst (v := (0 : Int32)) C dX10_reviewsOf_28 (by decide) ?_
      refine g_iadd C dX10_reviewsOf_29 ?_
      refine g_istore_n (lv' := [(2, .int (v2 + (0 : Int32))), (0, .ref (oa (gw Γ) 95)), (1, .int v1), (3, .int v3)]) C dX10_reviewsOf_30 rfl (by decide) rfl ?_
      refine g_iinc (q := 3) (v := v3 + (1 : Int32)) (lv' := [(3, .int (v3 + (1 : Int32))), (2, .int (v2 + (0 : Int32))), (0, .ref (oa (gw Γ) 95)), (1, .int v1)]) C dX10_reviewsOf_31 rfl rfl (by decide) rfl ?_
      refine g_goto (tgt := 4) C dX10_reviewsOf_34 (by decide) ?_
      refine g_sub [2, 3, 1, 0] rfl ?_
      exact hrec v1 (v2 + (0 : Int32)) (v3 + (1 : Int32)) m_1 b h hE
    · replace h := it_f c_2 h
      refine g_iconst (v := (1 : Int32)) C dX10_reviewsOf_24 (by decide) ?_
      refine g_goto (tgt := 29) C dX10_reviewsOf_25 (by decide) ?_
      refine g_iadd C dX10_reviewsOf_29 ?_
      refine g_istore_n (lv' := [(2, .int (v2 + (1 : Int32))), (0, .ref (oa (gw Γ) 95)), (1, .int v1), (3, .int v3)]) C dX10_reviewsOf_30 rfl (by decide) rfl ?_
      refine g_iinc (q := 3) (v := v3 + (1 : Int32)) (lv' := [(3, .int (v3 + (1 : Int32))), (2, .int (v2 + (1 : Int32))), (0, .ref (oa (gw Γ) 95)), (1, .int v1)]) C dX10_reviewsOf_31 rfl rfl (by decide) rfl ?_
      refine g_goto (tgt := 4) C dX10_reviewsOf_34 (by decide) ?_
      refine g_sub [2, 3, 1, 0] rfl ?_
      exact hrec v1 (v2 + (1 : Int32)) (v3 + (1 : Int32)) m_1 b h hE
theorem lt_X10_reviewsOf_4 (N : Nat) (Γ : Gc) (C : Cx Γ cX10_reviewsOf 4 RX10 (rmK 2 43 0)) : ∀ (n : Nat) (v1 : Int32) (v2 : Int32) (v3 : Int32) (m : Mem) (b : Int32 × Mem), L_X10_reviewsOf_4 N n v1 v2 v3 m = some b → Ex_X10_reviewsOf_4 Γ 0 b → G Γ 4 0 m 4 [(0, .ref (oa (gw Γ) 95)), (1, .int v1), (2, .int v2), (3, .int v3)] [] := by
  intro n
  induction n with
  | zero =>
    intro v1 v2 v3 m b h
    have h9 : (none : Option (Int32 × Mem)) = some b := h
    cases h9
  | succ n ih => intro v1 v2 v3 m b h hE; exact t_X10_reviewsOf_4 N Γ C (L_X10_reviewsOf_4 N n) b hE ih v1 v2 v3 m h
set_option maxRecDepth 100000 in
set_option maxHeartbeats 4000000 in
theorem t_X10_reviewsOf (N : Nat) (Γ : Gc) (C : Cx Γ cX10_reviewsOf 4 RX10 (rmK 2 43 0)) (v1 : Int32) (m : Mem) (b : Int32 × Mem) (h : f_X10_reviewsOf N v1 m = some b) (hE : EIn Γ 4 cX10_reviewsOf b) : G Γ 4 0 m 0 [(0, .ref (oa (gw Γ) 95)), (1, .int v1)] [] := by
  unfold f_X10_reviewsOf at h
  refine g_iconst (v := (0 : Int32)) C dX10_reviewsOf_0 (by decide) ?_
  refine g_istore_n (lv' := [(2, .int (0 : Int32)), (0, .ref (oa (gw Γ) 95)), (1, .int v1)]) C dX10_reviewsOf_1 rfl (by decide) rfl ?_
  refine g_iconst (v := (0 : Int32)) C dX10_reviewsOf_2 (by decide) ?_
  refine g_istore_n (lv' := [(3, .int (0 : Int32)), (2, .int (0 : Int32)), (0, .ref (oa (gw Γ) 95)), (1, .int v1)]) C dX10_reviewsOf_3 rfl (by decide) rfl ?_
  obtain ⟨v2_4, m_4, hx, h⟩ := l2_some h
  refine g_sub [2, 3, 1, 0] rfl ?_
  refine lt_X10_reviewsOf_4 N Γ C N v1 (0 : Int32) (0 : Int32) m _ hx ?_
  intro z2 m9 e9
  cases e9
  refine g_iload_n C dX10_reviewsOf_37 0 rfl rfl ?_
  obtain rfl := Option.some.inj h
  exact hE 38 _ dX10_reviewsOf_38
theorem c_X10_reviewsOf (N : Nat) (l : Launch) (hst : l.stackTraces = false) (w : Om) (v1 : Int32) (m : Mem) (o : Int32 × Mem) (h : f_X10_reviewsOf N v1 m = some o) : KI l yX10_reviewsOf cX10_reviewsOf 4 (some .int) 2 43 w [.ref (oa w 95), .int v1] m o.1 o.2 := KI_of hst (by decide +kernel) RX10 rfl (Nat.le_of_ble_eq_true rfl) (fun Γ hw hl C hE => by
  subst hw; subst hl
  exact t_X10_reviewsOf N Γ C v1 m o h hE)
set_option maxRecDepth 100000 in
set_option maxHeartbeats 4000000 in
theorem t_X10_reviewsBy (N : Nat) (Γ : Gc) (C : Cx Γ cX10_reviewsBy 2 RX10 (rmK 1 22 0)) (v1 : Int32) (m : Mem) (b : Int32 × Mem) (h : f_X10_reviewsBy N v1 m = some b) (hE : EIn Γ 2 cX10_reviewsBy b) : G Γ 2 0 m 0 [(0, .ref (oa (gw Γ) 95)), (1, .int v1)] [] := by
  unfold f_X10_reviewsBy at h
  refine g_aload_n C dX10_reviewsBy_0 0 rfl rfl ?_
  refine g_getT (b := 98) (ci := 10) (j := 3) C dX10_reviewsBy_1 rfl (by decide) rfl inT_X10 (by decide) k_588 rfl rfl rfl rfl ?_
  refine g_bipush (v := (14 : Int32)) C dX10_reviewsBy_4 (by decide) ?_
  refine g_iload_n C dX10_reviewsBy_6 1 rfl rfl ?_
  refine g_iadd C dX10_reviewsBy_7 ?_
  obtain ⟨g_1, h⟩ := gd_some h
  refine g_iald C dX10_reviewsBy_8 (okA_of rfl rfl g_1) ?_
  obtain ⟨r_2, m_2, hk_2, h⟩ := b2_some h
  refine g_sI (As := [.int (gI m 98 ((14 : Int32) + v1).toNatClampNeg)]) C dX10_reviewsBy_9 mf_X10_bits k_598 ⟨by decide, by decide⟩ rfl rfl (Nat.le_of_ble_eq_true rfl) (by decide) (c_X10_bits N (gl Γ) C.2.2.2.2 (gw Γ) (gI m 98 ((14 : Int32) + v1).toNatClampNeg) m _ hk_2) ?_
  obtain rfl := Option.some.inj h
  exact hE 12 _ dX10_reviewsBy_12
theorem c_X10_reviewsBy (N : Nat) (l : Launch) (hst : l.stackTraces = false) (w : Om) (v1 : Int32) (m : Mem) (o : Int32 × Mem) (h : f_X10_reviewsBy N v1 m = some o) : KI l yX10_reviewsBy cX10_reviewsBy 2 (some .int) 1 22 w [.ref (oa w 95), .int v1] m o.1 o.2 := KI_of hst (by decide +kernel) RX10 rfl (Nat.le_of_ble_eq_true rfl) (fun Γ hw hl C hE => by
  subst hw; subst hl
  exact t_X10_reviewsBy N Γ C v1 m o h hE)
def Ex_X10_scoredOf_4 (Γ : Gc) (cs : Nat) (b : Int32 × Mem) : Prop := (∀ (y2 : Int32) (m' : Mem), b = (y2, m') → G Γ 4 cs m' 33 [(2, .int y2)] [])
set_option maxRecDepth 100000 in
set_option maxHeartbeats 4000000 in
theorem t_X10_scoredOf_4 (N : Nat) (Γ : Gc) (C : Cx Γ cX10_scoredOf 4 RX10 (rmK 1 22 0)) (rc : Int32 → Int32 → Int32 → Mem → Option (Int32 × Mem)) (b : Int32 × Mem) (hE : Ex_X10_scoredOf_4 Γ 0 b) (hrec : ∀ (v1 : Int32) (v2 : Int32) (v3 : Int32) (m : Mem) (b : Int32 × Mem), rc v1 v2 v3 m = some b → Ex_X10_scoredOf_4 Γ 0 b → G Γ 4 0 m 4 [(0, .ref (oa (gw Γ) 95)), (1, .int v1), (2, .int v2), (3, .int v3)] []) (v1 : Int32) (v2 : Int32) (v3 : Int32) (m : Mem) (h : T_X10_scoredOf_4 N rc v1 v2 v3 m = some b) : G Γ 4 0 m 4 [(0, .ref (oa (gw Γ) 95)), (1, .int v1), (2, .int v2), (3, .int v3)] [] := by
  unfold T_X10_scoredOf_4 at h
  refine g_iload_n C dX10_scoredOf_4 3 rfl rfl ?_
  refine g_bipush (v := (16 : Int32)) C dX10_scoredOf_5 (by decide) ?_
  refine g_icmp_ge (tgt := 33) C dX10_scoredOf_7 (by decide) (fun c_3 => ?_) (fun c_3 => ?_)
  · replace h := it_t c_3 h
    obtain rfl := Option.some.inj h
    refine g_sub [2] rfl ?_
    exact hE _ _ rfl
  · replace h := it_f c_3 h
    refine g_iload_n C dX10_scoredOf_10 2 rfl rfl ?_
    refine g_aload_n C dX10_scoredOf_11 0 rfl rfl ?_
    refine g_iload_n C dX10_scoredOf_12 1 rfl rfl ?_
    refine g_iload_n C dX10_scoredOf_13 3 rfl rfl ?_
    obtain ⟨r_1, m_1, hk_1, h⟩ := b2_some h
    refine g_vI (As := [.int v1, .int v3]) (a := 95) (ci := 10) C dX10_scoredOf_14 mf_X10_score k_601 rfl (by decide) ⟨by decide, by decide⟩ rfl rfl (Nat.le_of_ble_eq_true rfl) (by decide) rfl (c_X10_score N (gl Γ) C.2.2.2.2 (gw Γ) v1 v3 m _ hk_1) ?_
    refine g_if_le (tgt := 24) C dX10_scoredOf_17 (by decide) (fun c_2 => ?_) (fun c_2 => ?_)
    · replace h := it_t c_2 h
      refine g_iconst (v := (0 : Int32)) C dX10_scoredOf_24 (by decide) ?_
      refine g_iadd C dX10_scoredOf_25 ?_
      refine g_istore_n (lv' := [(2, .int (v2 + (0 : Int32))), (0, .ref (oa (gw Γ) 95)), (1, .int v1), (3, .int v3)]) C dX10_scoredOf_26 rfl (by decide) rfl ?_
      refine g_iinc (q := 3) (v := v3 + (1 : Int32)) (lv' := [(3, .int (v3 + (1 : Int32))), (2, .int (v2 + (0 : Int32))), (0, .ref (oa (gw Γ) 95)), (1, .int v1)]) C dX10_scoredOf_27 rfl rfl (by decide) rfl ?_
      refine g_goto (tgt := 4) C dX10_scoredOf_30 (by decide) ?_
      refine g_sub [2, 3, 1, 0] rfl ?_
      exact hrec v1 (v2 + (0 : Int32)) (v3 + (1 : Int32)) m_1 b h hE
    · replace h := it_f c_2 h
      refine g_iconst (v := (1 : Int32)) C dX10_scoredOf_20 (by decide) ?_
      refine g_goto (tgt := 25) C dX10_scoredOf_21 (by decide) ?_
      refine g_iadd C dX10_scoredOf_25 ?_
      refine g_istore_n (lv' := [(2, .int (v2 + (1 : Int32))), (0, .ref (oa (gw Γ) 95)), (1, .int v1), (3, .int v3)]) C dX10_scoredOf_26 rfl (by decide) rfl ?_
      refine g_iinc (q := 3) (v := v3 + (1 : Int32)) (lv' := [(3, .int (v3 + (1 : Int32))), (2, .int (v2 + (1 : Int32))), (0, .ref (oa (gw Γ) 95)), (1, .int v1)]) C dX10_scoredOf_27 rfl rfl (by decide) rfl ?_
      refine g_goto (tgt := 4) C dX10_scoredOf_30 (by decide) ?_
      refine g_sub [2, 3, 1, 0] rfl ?_
      exact hrec v1 (v2 + (1 : Int32)) (v3 + (1 : Int32)) m_1 b h hE
theorem lt_X10_scoredOf_4 (N : Nat) (Γ : Gc) (C : Cx Γ cX10_scoredOf 4 RX10 (rmK 1 22 0)) : ∀ (n : Nat) (v1 : Int32) (v2 : Int32) (v3 : Int32) (m : Mem) (b : Int32 × Mem), L_X10_scoredOf_4 N n v1 v2 v3 m = some b → Ex_X10_scoredOf_4 Γ 0 b → G Γ 4 0 m 4 [(0, .ref (oa (gw Γ) 95)), (1, .int v1), (2, .int v2), (3, .int v3)] [] := by
  intro n
  induction n with
  | zero =>
    intro v1 v2 v3 m b h
    have h9 : (none : Option (Int32 × Mem)) = some b := h
    cases h9
  | succ n ih => intro v1 v2 v3 m b h hE; exact t_X10_scoredOf_4 N Γ C (L_X10_scoredOf_4 N n) b hE ih v1 v2 v3 m h
set_option maxRecDepth 100000 in
set_option maxHeartbeats 4000000 in
theorem t_X10_scoredOf (N : Nat) (Γ : Gc) (C : Cx Γ cX10_scoredOf 4 RX10 (rmK 1 22 0)) (v1 : Int32) (m : Mem) (b : Int32 × Mem) (h : f_X10_scoredOf N v1 m = some b) (hE : EIn Γ 4 cX10_scoredOf b) : G Γ 4 0 m 0 [(0, .ref (oa (gw Γ) 95)), (1, .int v1)] [] := by
  unfold f_X10_scoredOf at h
  refine g_iconst (v := (0 : Int32)) C dX10_scoredOf_0 (by decide) ?_
  refine g_istore_n (lv' := [(2, .int (0 : Int32)), (0, .ref (oa (gw Γ) 95)), (1, .int v1)]) C dX10_scoredOf_1 rfl (by decide) rfl ?_
  refine g_iconst (v := (0 : Int32)) C dX10_scoredOf_2 (by decide) ?_
  refine g_istore_n (lv' := [(3, .int (0 : Int32)), (2, .int (0 : Int32)), (0, .ref (oa (gw Γ) 95)), (1, .int v1)]) C dX10_scoredOf_3 rfl (by decide) rfl ?_
  obtain ⟨v2_4, m_4, hx, h⟩ := l2_some h
  refine g_sub [2, 3, 1, 0] rfl ?_
  refine lt_X10_scoredOf_4 N Γ C N v1 (0 : Int32) (0 : Int32) m _ hx ?_
  intro z2 m9 e9
  cases e9
  refine g_iload_n C dX10_scoredOf_33 0 rfl rfl ?_
  obtain rfl := Option.some.inj h
  exact hE 34 _ dX10_scoredOf_34
theorem c_X10_scoredOf (N : Nat) (l : Launch) (hst : l.stackTraces = false) (w : Om) (v1 : Int32) (m : Mem) (o : Int32 × Mem) (h : f_X10_scoredOf N v1 m = some o) : KI l yX10_scoredOf cX10_scoredOf 4 (some .int) 1 22 w [.ref (oa w 95), .int v1] m o.1 o.2 := KI_of hst (by decide +kernel) RX10 rfl (Nat.le_of_ble_eq_true rfl) (fun Γ hw hl C hE => by
  subst hw; subst hl
  exact t_X10_scoredOf N Γ C v1 m o h hE)
set_option maxRecDepth 100000 in
set_option maxHeartbeats 4000000 in
theorem t_X10_hasConflict_30 (N : Nat) (Γ : Gc) (C : Cx Γ cX10_hasConflict 3 RX10 (rmK 1 22 0)) (b : Int32 × Mem) (hE : EZn Γ 3 cX10_hasConflict b)  (m : Mem) (h : B_X10_hasConflict_30 N  m = some b) : G Γ 3 0 m 30 [] [] := by
  unfold B_X10_hasConflict_30 at h
  refine g_iconst (v := (1 : Int32)) C dX10_hasConflict_30 (by decide) ?_
  refine g_goto (tgt := 35) C dX10_hasConflict_31 (by decide) ?_
  obtain rfl := Option.some.inj h
  exact hE 35 _ (show isB (1 : Int32) = true by decide) dX10_hasConflict_35
set_option maxRecDepth 100000 in
set_option maxHeartbeats 4000000 in
theorem t_X10_hasConflict (N : Nat) (Γ : Gc) (C : Cx Γ cX10_hasConflict 3 RX10 (rmK 1 22 0)) (v1 : Int32) (v2 : Int32) (m : Mem) (b : Int32 × Mem) (h : f_X10_hasConflict N v1 v2 m = some b) (hE : EZn Γ 3 cX10_hasConflict b) : G Γ 3 0 m 0 [(0, .ref (oa (gw Γ) 95)), (1, .int v1), (2, .int v2)] [] := by
  unfold f_X10_hasConflict at h
  refine g_aload_n C dX10_hasConflict_0 0 rfl rfl ?_
  refine g_iload_n C dX10_hasConflict_1 1 rfl rfl ?_
  refine g_iconst (v := (1 : Int32)) C dX10_hasConflict_2 (by decide) ?_
  obtain ⟨r_1, m_1, hk_1, h⟩ := b2_some h
  refine g_vI (As := [.int v1, .int (1 : Int32)]) (a := 95) (ci := 10) C dX10_hasConflict_3 mf_X10_reviewer k_605 rfl (by decide) ⟨by decide, by decide⟩ rfl rfl (Nat.le_of_ble_eq_true rfl) (by decide) rfl (c_X10_reviewer N (gl Γ) C.2.2.2.2 (gw Γ) v1 (1 : Int32) m _ hk_1) ?_
  refine g_aload_n C dX10_hasConflict_6 0 rfl rfl ?_
  refine g_iload_n C dX10_hasConflict_7 2 rfl rfl ?_
  refine g_iconst (v := (1 : Int32)) C dX10_hasConflict_8 (by decide) ?_
  obtain ⟨r_2, m_2, hk_2, h⟩ := b2_some h
  refine g_vI (As := [.int v2, .int (1 : Int32)]) (a := 95) (ci := 10) C dX10_hasConflict_9 mf_X10_proposal k_609 rfl (by decide) ⟨by decide, by decide⟩ rfl rfl (Nat.le_of_ble_eq_true rfl) (by decide) rfl (c_X10_proposal N (gl Γ) C.2.2.2.2 (gw Γ) v2 (1 : Int32) m_1 _ hk_2) ?_
  refine g_icmp_eq (tgt := 30) C dX10_hasConflict_12 (by decide) (fun c_6 => ?_) (fun c_6 => ?_)
  · replace h := it_t c_6 h
    refine g_sub [] rfl ?_
    exact t_X10_hasConflict_30 N Γ C b hE  m_2 h
  · replace h := it_f c_6 h
    refine g_aload_n C dX10_hasConflict_15 0 rfl rfl ?_
    refine g_getT (b := 98) (ci := 10) (j := 3) C dX10_hasConflict_16 rfl (by decide) rfl inT_X10 (by decide) k_588 rfl rfl rfl rfl ?_
    refine g_iconst (v := (2 : Int32)) C dX10_hasConflict_19 (by decide) ?_
    refine g_iload_n C dX10_hasConflict_20 1 rfl rfl ?_
    refine g_iadd C dX10_hasConflict_21 ?_
    obtain ⟨g_3, h⟩ := gd_some h
    refine g_iald C dX10_hasConflict_22 (okA_of rfl rfl g_3) ?_
    refine g_iload_n C dX10_hasConflict_23 2 rfl rfl ?_
    obtain ⟨r_4, m_4, hk_4, h⟩ := b2_some h
    refine g_sI (As := [.int (gI m_2 98 ((2 : Int32) + v1).toNatClampNeg), .int v2]) C dX10_hasConflict_24 mf_X10_has k_591 ⟨by decide, by decide⟩ rfl rfl (Nat.le_of_ble_eq_true rfl) (by decide) (c_X10_has N (gl Γ) C.2.2.2.2 (gw Γ) (gI m_2 98 ((2 : Int32) + v1).toNatClampNeg) v2 m_2 _ hk_4) ?_
    refine g_if_eq (tgt := 34) C dX10_hasConflict_27 (by decide) (fun c_5 => ?_) (fun c_5 => ?_)
    · replace h := it_t c_5 h
      refine g_iconst (v := (0 : Int32)) C dX10_hasConflict_34 (by decide) ?_
      obtain rfl := Option.some.inj h
      exact hE 35 _ (show isB (0 : Int32) = true by decide) dX10_hasConflict_35
    · replace h := it_f c_5 h
      refine g_sub [] rfl ?_
      exact t_X10_hasConflict_30 N Γ C b hE  m_4 h
theorem c_X10_hasConflict (N : Nat) (l : Launch) (hst : l.stackTraces = false) (w : Om) (v1 : Int32) (v2 : Int32) (m : Mem) (o : Int32 × Mem) (h : f_X10_hasConflict N v1 v2 m = some o) : KI l yX10_hasConflict cX10_hasConflict 3 (some .boolean) 1 22 w [.ref (oa w 95), .int v1, .int v2] m o.1 o.2 := KZ_of hst (by decide +kernel) RX10 rfl (Nat.le_of_ble_eq_true rfl) (fun Γ hw hl C hE => by
  subst hw; subst hl
  exact t_X10_hasConflict N Γ C v1 v2 m o h hE)
set_option maxRecDepth 100000 in
set_option maxHeartbeats 4000000 in
theorem t_X10_fits_28 (N : Nat) (Γ : Gc) (C : Cx Γ cX10_fits 3 RX10 (rmK 2 44 0)) (b : Int32 × Mem) (hE : EZn Γ 3 cX10_fits b)  (m : Mem) (h : B_X10_fits_28 N  m = some b) : G Γ 3 0 m 28 [] [] := by
  unfold B_X10_fits_28 at h
  refine g_iconst (v := (0 : Int32)) C dX10_fits_28 (by decide) ?_
  obtain rfl := Option.some.inj h
  exact hE 29 _ (show isB (0 : Int32) = true by decide) dX10_fits_29
set_option maxRecDepth 100000 in
set_option maxHeartbeats 4000000 in
theorem t_X10_fits (N : Nat) (Γ : Gc) (C : Cx Γ cX10_fits 3 RX10 (rmK 2 44 0)) (v1 : Int32) (v2 : Int32) (m : Mem) (b : Int32 × Mem) (h : f_X10_fits N v1 v2 m = some b) (hE : EZn Γ 3 cX10_fits b) : G Γ 3 0 m 0 [(0, .ref (oa (gw Γ) 95)), (1, .int v1), (2, .int v2)] [] := by
  unfold f_X10_fits at h
  refine g_aload_n C dX10_fits_0 0 rfl rfl ?_
  refine g_iload_n C dX10_fits_1 1 rfl rfl ?_
  refine g_iconst (v := (0 : Int32)) C dX10_fits_2 (by decide) ?_
  obtain ⟨r_1, m_1, hk_1, h⟩ := b2_some h
  refine g_vI (As := [.int v1, .int (0 : Int32)]) (a := 95) (ci := 10) C dX10_fits_3 mf_X10_reviewer k_605 rfl (by decide) ⟨by decide, by decide⟩ rfl rfl (Nat.le_of_ble_eq_true rfl) (by decide) rfl (c_X10_reviewer N (gl Γ) C.2.2.2.2 (gw Γ) v1 (0 : Int32) m _ hk_1) ?_
  refine g_aload_n C dX10_fits_6 0 rfl rfl ?_
  refine g_iload_n C dX10_fits_7 2 rfl rfl ?_
  refine g_iconst (v := (0 : Int32)) C dX10_fits_8 (by decide) ?_
  obtain ⟨r_2, m_2, hk_2, h⟩ := b2_some h
  refine g_vI (As := [.int v2, .int (0 : Int32)]) (a := 95) (ci := 10) C dX10_fits_9 mf_X10_proposal k_609 rfl (by decide) ⟨by decide, by decide⟩ rfl rfl (Nat.le_of_ble_eq_true rfl) (by decide) rfl (c_X10_proposal N (gl Γ) C.2.2.2.2 (gw Γ) v2 (0 : Int32) m_1 _ hk_2) ?_
  refine g_icmp_ne (tgt := 28) C dX10_fits_12 (by decide) (fun c_5 => ?_) (fun c_5 => ?_)
  · replace h := it_f c_5 h
    refine g_sub [] rfl ?_
    exact t_X10_fits_28 N Γ C b hE  m_2 h
  · replace h := it_t c_5 h
    refine g_aload_n C dX10_fits_15 0 rfl rfl ?_
    refine g_iload_n C dX10_fits_16 1 rfl rfl ?_
    refine g_iload_n C dX10_fits_17 2 rfl rfl ?_
    obtain ⟨r_3, m_3, hk_3, h⟩ := b2_some h
    refine g_vI (As := [.int v1, .int v2]) (a := 95) (ci := 10) C dX10_fits_18 mf_X10_hasConflict k_613 rfl (by decide) ⟨by decide, by decide⟩ rfl rfl (Nat.le_of_ble_eq_true rfl) (by decide) rfl (c_X10_hasConflict N (gl Γ) C.2.2.2.2 (gw Γ) v1 v2 m_2 _ hk_3) ?_
    refine g_if_ne (tgt := 28) C dX10_fits_21 (by decide) (fun c_4 => ?_) (fun c_4 => ?_)
    · replace h := it_f c_4 h
      refine g_sub [] rfl ?_
      exact t_X10_fits_28 N Γ C b hE  m_3 h
    · replace h := it_t c_4 h
      refine g_iconst (v := (1 : Int32)) C dX10_fits_24 (by decide) ?_
      refine g_goto (tgt := 29) C dX10_fits_25 (by decide) ?_
      obtain rfl := Option.some.inj h
      exact hE 29 _ (show isB (1 : Int32) = true by decide) dX10_fits_29
theorem c_X10_fits (N : Nat) (l : Launch) (hst : l.stackTraces = false) (w : Om) (v1 : Int32) (v2 : Int32) (m : Mem) (o : Int32 × Mem) (h : f_X10_fits N v1 v2 m = some o) : KI l yX10_fits cX10_fits 3 (some .boolean) 2 44 w [.ref (oa w 95), .int v1, .int v2] m o.1 o.2 := KZ_of hst (by decide +kernel) RX10 rfl (Nat.le_of_ble_eq_true rfl) (fun Γ hw hl C hE => by
  subst hw; subst hl
  exact t_X10_fits N Γ C v1 v2 m o h hE)
set_option maxRecDepth 100000 in
set_option maxHeartbeats 4000000 in
theorem t_X10_matches_52 (N : Nat) (Γ : Gc) (C : Cx Γ cX10_matches 5 RX10 (rmK 1 22 0)) (b : Int32 × Mem) (hE : EIn Γ 5 cX10_matches b)  (m : Mem) (h : B_X10_matches_52 N  m = some b) : G Γ 5 0 m 52 [] [] := by
  unfold B_X10_matches_52 at h
  refine g_iconst (v := (1 : Int32)) C dX10_matches_52 (by decide) ?_
  refine g_goto (tgt := 57) C dX10_matches_53 (by decide) ?_
  obtain rfl := Option.some.inj h
  exact hE 57 _ dX10_matches_57
set_option maxRecDepth 100000 in
set_option maxHeartbeats 4000000 in
theorem t_X10_matches_56 (N : Nat) (Γ : Gc) (C : Cx Γ cX10_matches 5 RX10 (rmK 1 22 0)) (b : Int32 × Mem) (hE : EIn Γ 5 cX10_matches b)  (m : Mem) (h : B_X10_matches_56 N  m = some b) : G Γ 5 0 m 56 [] [] := by
  unfold B_X10_matches_56 at h
  refine g_iconst (v := (0 : Int32)) C dX10_matches_56 (by decide) ?_
  obtain rfl := Option.some.inj h
  exact hE 57 _ dX10_matches_57
set_option maxRecDepth 100000 in
set_option maxHeartbeats 4000000 in
theorem t_X10_matches (N : Nat) (Γ : Gc) (C : Cx Γ cX10_matches 5 RX10 (rmK 1 22 0)) (v1 : Int32) (v2 : Int32) (m : Mem) (b : Int32 × Mem) (h : f_X10_matches N v1 v2 m = some b) (hE : EIn Γ 5 cX10_matches b) : G Γ 5 0 m 0 [(0, .ref (oa (gw Γ) 95)), (1, .int v1), (2, .int v2)] [] := by
  unfold f_X10_matches at h
  refine g_aload_n C dX10_matches_0 0 rfl rfl ?_
  refine g_iload_n C dX10_matches_1 2 rfl rfl ?_
  refine g_iconst (v := (2 : Int32)) C dX10_matches_2 (by decide) ?_
  obtain ⟨r_1, m_1, hk_1, h⟩ := b2_some h
  refine g_vI (As := [.int v2, .int (2 : Int32)]) (a := 95) (ci := 10) C dX10_matches_3 mf_X10_proposal k_609 rfl (by decide) ⟨by decide, by decide⟩ rfl rfl (Nat.le_of_ble_eq_true rfl) (by decide) rfl (c_X10_proposal N (gl Γ) C.2.2.2.2 (gw Γ) v2 (2 : Int32) m _ hk_1) ?_
  refine g_istore_n (lv' := [(3, .int r_1), (0, .ref (oa (gw Γ) 95)), (1, .int v1), (2, .int v2)]) C dX10_matches_6 rfl (by decide) rfl ?_
  refine g_aload_n C dX10_matches_7 1 rfl rfl ?_
  refine g_iload_n C dX10_matches_8 2 rfl rfl ?_
  refine g_iconst (v := (3 : Int32)) C dX10_matches_9 (by decide) ?_
  obtain ⟨r_2, m_2, hk_2, h⟩ := b2_some h
  refine g_vI (As := [.int v1, .int (3 : Int32)]) (a := 95) (ci := 10) C dX10_matches_10 mf_X10_reviewer k_605 rfl (by decide) ⟨by decide, by decide⟩ rfl rfl (Nat.le_of_ble_eq_true rfl) (by decide) rfl (c_X10_reviewer N (gl Γ) C.2.2.2.2 (gw Γ) v1 (3 : Int32) m_1 _ hk_2) ?_
  refine g_istore (lv' := [(4, .int r_2), (3, .int r_1), (0, .ref (oa (gw Γ) 95)), (1, .int v1), (2, .int v2)]) C dX10_matches_13 (by decide) rfl ?_
  refine g_iload C dX10_matches_15 0 rfl ?_
  refine g_iload_n C dX10_matches_17 1 rfl rfl ?_
  obtain ⟨r_3, m_3, hk_3, h⟩ := b2_some h
  refine g_sI (As := [.int r_2, .int r_1]) C dX10_matches_18 mf_X10_has k_591 ⟨by decide, by decide⟩ rfl rfl (Nat.le_of_ble_eq_true rfl) (by decide) (c_X10_has N (gl Γ) C.2.2.2.2 (gw Γ) r_2 r_1 m_2 _ hk_3) ?_
  refine g_if_eq (tgt := 26) C dX10_matches_21 (by decide) (fun c_9 => ?_) (fun c_9 => ?_)
  · replace h := it_t c_9 h
    refine g_iload C dX10_matches_26 0 rfl ?_
    refine g_iload_n C dX10_matches_28 1 rfl rfl ?_
    refine g_iconst (v := (1 : Int32)) C dX10_matches_29 (by decide) ?_
    refine g_iadd C dX10_matches_30 ?_
    obtain ⟨r_4, m_4, hk_4, h⟩ := b2_some h
    refine g_sI (As := [.int r_2, .int (r_1 + (1 : Int32))]) C dX10_matches_31 mf_X10_has k_591 ⟨by decide, by decide⟩ rfl rfl (Nat.le_of_ble_eq_true rfl) (by decide) (c_X10_has N (gl Γ) C.2.2.2.2 (gw Γ) r_2 (r_1 + (1 : Int32)) m_3 _ hk_4) ?_
    refine g_if_ne (tgt := 52) C dX10_matches_34 (by decide) (fun c_8 => ?_) (fun c_8 => ?_)
    · replace h := it_f c_8 h
      refine g_sub [] rfl ?_
      exact t_X10_matches_52 N Γ C b hE  m_4 h
    · replace h := it_t c_8 h
      refine g_iload_n C dX10_matches_37 1 rfl rfl ?_
      refine g_if_le (tgt := 56) C dX10_matches_38 (by decide) (fun c_7 => ?_) (fun c_7 => ?_)
      · replace h := it_t c_7 h
        refine g_sub [] rfl ?_
        exact t_X10_matches_56 N Γ C b hE  m_4 h
      · replace h := it_f c_7 h
        refine g_iload C dX10_matches_41 0 rfl ?_
        refine g_iload_n C dX10_matches_43 1 rfl rfl ?_
        refine g_iconst (v := (1 : Int32)) C dX10_matches_44 (by decide) ?_
        refine g_isub C dX10_matches_45 ?_
        obtain ⟨r_5, m_5, hk_5, h⟩ := b2_some h
        refine g_sI (As := [.int r_2, .int (r_1 - (1 : Int32))]) C dX10_matches_46 mf_X10_has k_591 ⟨by decide, by decide⟩ rfl rfl (Nat.le_of_ble_eq_true rfl) (by decide) (c_X10_has N (gl Γ) C.2.2.2.2 (gw Γ) r_2 (r_1 - (1 : Int32)) m_4 _ hk_5) ?_
        refine g_if_eq (tgt := 56) C dX10_matches_49 (by decide) (fun c_6 => ?_) (fun c_6 => ?_)
        · replace h := it_t c_6 h
          refine g_sub [] rfl ?_
          exact t_X10_matches_56 N Γ C b hE  m_5 h
        · replace h := it_f c_6 h
          refine g_sub [] rfl ?_
          exact t_X10_matches_52 N Γ C b hE  m_5 h
  · replace h := it_f c_9 h
    refine g_iconst (v := (2 : Int32)) C dX10_matches_24 (by decide) ?_
    obtain rfl := Option.some.inj h
    exact hE 25 _ dX10_matches_25
theorem c_X10_matches (N : Nat) (l : Launch) (hst : l.stackTraces = false) (w : Om) (v1 : Int32) (v2 : Int32) (m : Mem) (o : Int32 × Mem) (h : f_X10_matches N v1 v2 m = some o) : KI l yX10_matches cX10_matches 5 (some .int) 1 22 w [.ref (oa w 95), .int v1, .int v2] m o.1 o.2 := KI_of hst (by decide +kernel) RX10 rfl (Nat.le_of_ble_eq_true rfl) (fun Γ hw hl C hE => by
  subst hw; subst hl
  exact t_X10_matches N Γ C v1 v2 m o h hE)
def Ex_X10_count_60 (Γ : Gc) (cs : Nat) (b : Int32 × Mem) : Prop := (∀ (y2 : Int32) (m' : Mem), b = (y2, m') → G Γ 4 cs m' 116 [(2, .int y2)] [])
set_option maxRecDepth 100000 in
set_option maxHeartbeats 4000000 in
theorem t_X10_count_60 (N : Nat) (Γ : Gc) (C : Cx Γ cX10_count 4 RX10 (rmK 2 45 0)) (rc : Int32 → Int32 → Int32 → Mem → Option (Int32 × Mem)) (b : Int32 × Mem) (hE : Ex_X10_count_60 Γ 0 b) (hrec : ∀ (v1 : Int32) (v2 : Int32) (v3 : Int32) (m : Mem) (b : Int32 × Mem), rc v1 v2 v3 m = some b → Ex_X10_count_60 Γ 0 b → G Γ 4 0 m 60 [(0, .ref (oa (gw Γ) 95)), (1, .int v1), (2, .int v2), (3, .int v3)] []) (v1 : Int32) (v2 : Int32) (v3 : Int32) (m : Mem) (h : T_X10_count_60 N rc v1 v2 v3 m = some b) : G Γ 4 0 m 60 [(0, .ref (oa (gw Γ) 95)), (1, .int v1), (2, .int v2), (3, .int v3)] [] := by
  unfold T_X10_count_60 at h
  refine g_iload_n C dX10_count_60 3 rfl rfl ?_
  refine g_aload_n C dX10_count_61 0 rfl rfl ?_
  refine g_getT (b := 96) (ci := 10) (j := 1) C dX10_count_62 rfl (by decide) rfl inT_X10 (by decide) k_506 rfl rfl rfl rfl ?_
  refine g_iconst (v := (1 : Int32)) C dX10_count_65 (by decide) ?_
  refine g_iald' (j := 1) C dX10_count_66 (okA_of rfl rfl (by decide)) (by decide) ?_
  refine g_icmp_ge (tgt := 116) C dX10_count_67 (by decide) (fun c_9 => ?_) (fun c_9 => ?_)
  · replace h := it_t c_9 h
    obtain rfl := Option.some.inj h
    refine g_sub [2] rfl ?_
    exact hE _ _ rfl
  · replace h := it_f c_9 h
    refine g_iload_n C dX10_count_70 2 rfl rfl ?_
    refine g_iload_n C dX10_count_71 1 rfl rfl ?_
    refine g_iconst (v := (3 : Int32)) C dX10_count_72 (by decide) ?_
    refine g_icmp_ne (tgt := 84) C dX10_count_73 (by decide) (fun c_8 => ?_) (fun c_8 => ?_)
    · replace h := it_f c_8 h
      refine g_iload_n C dX10_count_84 1 rfl rfl ?_
      refine g_iconst (v := (4 : Int32)) C dX10_count_85 (by decide) ?_
      refine g_icmp_ne (tgt := 97) C dX10_count_86 (by decide) (fun c_6 => ?_) (fun c_6 => ?_)
      · replace h := it_f c_6 h
        refine g_aload_n C dX10_count_97 0 rfl rfl ?_
        refine g_getT (b := 98) (ci := 10) (j := 3) C dX10_count_98 rfl (by decide) rfl inT_X10 (by decide) k_588 rfl rfl rfl rfl ?_
        refine g_iconst (v := (2 : Int32)) C dX10_count_101 (by decide) ?_
        refine g_iload_n C dX10_count_102 3 rfl rfl ?_
        refine g_iadd C dX10_count_103 ?_
        obtain ⟨g_3, h⟩ := gd_some h
        refine g_iald C dX10_count_104 (okA_of rfl rfl g_3) ?_
        obtain ⟨r_4, m_4, hk_4, h⟩ := b2_some h
        refine g_sI (As := [.int (gI m 98 ((2 : Int32) + v3).toNatClampNeg)]) C dX10_count_105 mf_X10_bits k_598 ⟨by decide, by decide⟩ rfl rfl (Nat.le_of_ble_eq_true rfl) (by decide) (c_X10_bits N (gl Γ) C.2.2.2.2 (gw Γ) (gI m 98 ((2 : Int32) + v3).toNatClampNeg) m _ hk_4) ?_
        refine g_iadd C dX10_count_108 ?_
        refine g_istore_n (lv' := [(2, .int (v2 + r_4)), (0, .ref (oa (gw Γ) 95)), (1, .int v1), (3, .int v3)]) C dX10_count_109 rfl (by decide) rfl ?_
        refine g_iinc (q := 3) (v := v3 + (1 : Int32)) (lv' := [(3, .int (v3 + (1 : Int32))), (2, .int (v2 + r_4)), (0, .ref (oa (gw Γ) 95)), (1, .int v1)]) C dX10_count_110 rfl rfl (by decide) rfl ?_
        refine g_goto (tgt := 60) C dX10_count_113 (by decide) ?_
        refine g_sub [2, 3, 1, 0] rfl ?_
        exact hrec v1 (v2 + r_4) (v3 + (1 : Int32)) m_4 b h hE
      · replace h := it_t c_6 h
        refine g_aload_n C dX10_count_89 0 rfl rfl ?_
        refine g_iload_n C dX10_count_90 3 rfl rfl ?_
        obtain ⟨r_5, m_5, hk_5, h⟩ := b2_some h
        refine g_vI (As := [.int v3]) (a := 95) (ci := 10) C dX10_count_91 mf_X10_scoredOf k_617 rfl (by decide) ⟨by decide, by decide⟩ rfl rfl (Nat.le_of_ble_eq_true rfl) (by decide) rfl (c_X10_scoredOf N (gl Γ) C.2.2.2.2 (gw Γ) v3 m _ hk_5) ?_
        refine g_goto (tgt := 108) C dX10_count_94 (by decide) ?_
        refine g_iadd C dX10_count_108 ?_
        refine g_istore_n (lv' := [(2, .int (v2 + r_5)), (0, .ref (oa (gw Γ) 95)), (1, .int v1), (3, .int v3)]) C dX10_count_109 rfl (by decide) rfl ?_
        refine g_iinc (q := 3) (v := v3 + (1 : Int32)) (lv' := [(3, .int (v3 + (1 : Int32))), (2, .int (v2 + r_5)), (0, .ref (oa (gw Γ) 95)), (1, .int v1)]) C dX10_count_110 rfl rfl (by decide) rfl ?_
        refine g_goto (tgt := 60) C dX10_count_113 (by decide) ?_
        refine g_sub [2, 3, 1, 0] rfl ?_
        exact hrec v1 (v2 + r_5) (v3 + (1 : Int32)) m_5 b h hE
    · replace h := it_t c_8 h
      refine g_aload_n C dX10_count_76 0 rfl rfl ?_
      refine g_iload_n C dX10_count_77 3 rfl rfl ?_
      obtain ⟨r_7, m_7, hk_7, h⟩ := b2_some h
      refine g_vI (As := [.int v3]) (a := 95) (ci := 10) C dX10_count_78 mf_X10_reviewsBy k_621 rfl (by decide) ⟨by decide, by decide⟩ rfl rfl (Nat.le_of_ble_eq_true rfl) (by decide) rfl (c_X10_reviewsBy N (gl Γ) C.2.2.2.2 (gw Γ) v3 m _ hk_7) ?_
      refine g_goto (tgt := 108) C dX10_count_81 (by decide) ?_
      refine g_iadd C dX10_count_108 ?_
      refine g_istore_n (lv' := [(2, .int (v2 + r_7)), (0, .ref (oa (gw Γ) 95)), (1, .int v1), (3, .int v3)]) C dX10_count_109 rfl (by decide) rfl ?_
      refine g_iinc (q := 3) (v := v3 + (1 : Int32)) (lv' := [(3, .int (v3 + (1 : Int32))), (2, .int (v2 + r_7)), (0, .ref (oa (gw Γ) 95)), (1, .int v1)]) C dX10_count_110 rfl rfl (by decide) rfl ?_
      refine g_goto (tgt := 60) C dX10_count_113 (by decide) ?_
      refine g_sub [2, 3, 1, 0] rfl ?_
      exact hrec v1 (v2 + r_7) (v3 + (1 : Int32)) m_7 b h hE
theorem lt_X10_count_60 (N : Nat) (Γ : Gc) (C : Cx Γ cX10_count 4 RX10 (rmK 2 45 0)) : ∀ (n : Nat) (v1 : Int32) (v2 : Int32) (v3 : Int32) (m : Mem) (b : Int32 × Mem), L_X10_count_60 N n v1 v2 v3 m = some b → Ex_X10_count_60 Γ 0 b → G Γ 4 0 m 60 [(0, .ref (oa (gw Γ) 95)), (1, .int v1), (2, .int v2), (3, .int v3)] [] := by
  intro n
  induction n with
  | zero =>
    intro v1 v2 v3 m b h
    have h9 : (none : Option (Int32 × Mem)) = some b := h
    cases h9
  | succ n ih => intro v1 v2 v3 m b h hE; exact t_X10_count_60 N Γ C (L_X10_count_60 N n) b hE ih v1 v2 v3 m h
set_option maxRecDepth 100000 in
set_option maxHeartbeats 4000000 in
theorem t_X10_count_16 (N : Nat) (Γ : Gc) (C : Cx Γ cX10_count 4 RX10 (rmK 2 45 0)) (b : Int32 × Mem) (hE : EIn Γ 4 cX10_count b) (v1 : Int32) (s0 : Int32) (m : Mem) (h : B_X10_count_16 N v1 s0 m = some b) : G Γ 4 0 m 16 [(0, .ref (oa (gw Γ) 95)), (1, .int v1)] [.int s0, .ref (oa (gw Γ) 95)] := by
  unfold B_X10_count_16 at h
  obtain ⟨m_2, e_2, h⟩ := wr_some h
  refine g_putI (ci := 10) (j := 0) C dX10_count_16 rfl (by decide) rfl inT_X10 (by decide) k_505 tyX10 tyX10_ok nmX10 rfl rfl rfl rfl rfl (G_m e_2 ?_)
  refine g_aload_n C dX10_count_19 0 rfl rfl ?_
  refine g_getI (ci := 10) (j := 0) C dX10_count_20 rfl (by decide) rfl inT_X10 (by decide) k_505 rfl rfl ?_
  refine g_if_le (tgt := 28) C dX10_count_23 (by decide) (fun c_15 => ?_) (fun c_15 => ?_)
  · replace h := it_t c_15 h
    refine g_iload_n C dX10_count_28 1 rfl rfl ?_
    refine g_iconst (v := (3 : Int32)) C dX10_count_29 (by decide) ?_
    refine g_icmp_ge (tgt := 40) C dX10_count_30 (by decide) (fun c_14 => ?_) (fun c_14 => ?_)
    · replace h := it_t c_14 h
      refine g_iload_n C dX10_count_40 1 rfl rfl ?_
      refine g_bipush (v := (6 : Int32)) C dX10_count_41 (by decide) ?_
      refine g_icmp_ne (tgt := 56) C dX10_count_43 (by decide) (fun c_12 => ?_) (fun c_12 => ?_)
      · replace h := it_f c_12 h
        refine g_iconst (v := (0 : Int32)) C dX10_count_56 (by decide) ?_
        refine g_istore_n (lv' := [(2, .int (0 : Int32)), (0, .ref (oa (gw Γ) 95)), (1, .int v1)]) C dX10_count_57 rfl (by decide) rfl ?_
        refine g_iconst (v := (0 : Int32)) C dX10_count_58 (by decide) ?_
        refine g_istore_n (lv' := [(3, .int (0 : Int32)), (2, .int (0 : Int32)), (0, .ref (oa (gw Γ) 95)), (1, .int v1)]) C dX10_count_59 rfl (by decide) rfl ?_
        obtain ⟨v2_10, m_10, hx, h⟩ := l2_some h
        refine g_sub [2, 3, 1, 0] rfl ?_
        refine lt_X10_count_60 N Γ C N v1 (0 : Int32) (0 : Int32) m_2 _ hx ?_
        intro z2 m9 e9
        cases e9
        refine g_iload_n C dX10_count_116 0 rfl rfl ?_
        obtain rfl := Option.some.inj h
        exact hE 117 _ dX10_count_117
      · replace h := it_t c_12 h
        refine g_aload_n C dX10_count_46 0 rfl rfl ?_
        refine g_getT (b := 98) (ci := 10) (j := 3) C dX10_count_47 rfl (by decide) rfl inT_X10 (by decide) k_588 rfl rfl rfl rfl ?_
        refine g_iconst (v := (1 : Int32)) C dX10_count_50 (by decide) ?_
        refine g_iald' (j := 1) C dX10_count_51 (okA_of rfl rfl (by decide)) (by decide) ?_
        obtain ⟨r_11, m_11, hk_11, h⟩ := b2_some h
        refine g_sI (As := [.int (gI m_2 98 1)]) C dX10_count_52 mf_X10_bits k_598 ⟨by decide, by decide⟩ rfl rfl (Nat.le_of_ble_eq_true rfl) (by decide) (c_X10_bits N (gl Γ) C.2.2.2.2 (gw Γ) (gI m_2 98 1) m_2 _ hk_11) ?_
        obtain rfl := Option.some.inj h
        exact hE 55 _ dX10_count_55
    · replace h := it_f c_14 h
      refine g_aload_n C dX10_count_33 0 rfl rfl ?_
      refine g_getT (b := 96) (ci := 10) (j := 1) C dX10_count_34 rfl (by decide) rfl inT_X10 (by decide) k_506 rfl rfl rfl rfl ?_
      refine g_iload_n C dX10_count_37 1 rfl rfl ?_
      obtain ⟨g_13, h⟩ := gd_some h
      refine g_iald C dX10_count_38 (okA_of rfl rfl g_13) ?_
      obtain rfl := Option.some.inj h
      exact hE 39 _ dX10_count_39
  · replace h := it_f c_15 h
    refine g_iconst (v := (0 : Int32)) C dX10_count_26 (by decide) ?_
    obtain rfl := Option.some.inj h
    exact hE 27 _ dX10_count_27
set_option maxRecDepth 100000 in
set_option maxHeartbeats 4000000 in
theorem t_X10_count (N : Nat) (Γ : Gc) (C : Cx Γ cX10_count 4 RX10 (rmK 2 45 0)) (v1 : Int32) (m : Mem) (b : Int32 × Mem) (h : f_X10_count N v1 m = some b) (hE : EIn Γ 4 cX10_count b) : G Γ 4 0 m 0 [(0, .ref (oa (gw Γ) 95)), (1, .int v1)] [] := by
  unfold f_X10_count at h
  refine g_aload_n C dX10_count_0 0 rfl rfl ?_
  refine g_iload_n C dX10_count_1 1 rfl rfl ?_
  refine g_iconst (v := (0 : Int32)) C dX10_count_2 (by decide) ?_
  refine g_bipush (v := (6 : Int32)) C dX10_count_3 (by decide) ?_
  obtain ⟨r_1, m_1, hk_1, h⟩ := b2_some h
  refine g_sI (As := [.int v1, .int (0 : Int32), .int (6 : Int32)]) C dX10_count_5 mf_X10_in k_507 ⟨by decide, by decide⟩ rfl rfl (Nat.le_of_ble_eq_true rfl) (by decide) (c_X10_in N (gl Γ) C.2.2.2.2 (gw Γ) v1 (0 : Int32) (6 : Int32) m _ hk_1) ?_
  refine g_if_eq (tgt := 15) C dX10_count_8 (by decide) (fun c_16 => ?_) (fun c_16 => ?_)
  · replace h := it_t c_16 h
    refine g_iconst (v := (1 : Int32)) C dX10_count_15 (by decide) ?_
    refine g_sub [0, 1] rfl ?_
    exact t_X10_count_16 N Γ C b hE v1 (1 : Int32) m_1 h
  · replace h := it_f c_16 h
    refine g_iconst (v := (0 : Int32)) C dX10_count_11 (by decide) ?_
    refine g_goto (tgt := 16) C dX10_count_12 (by decide) ?_
    refine g_sub [0, 1] rfl ?_
    exact t_X10_count_16 N Γ C b hE v1 (0 : Int32) m_1 h
theorem c_X10_count (N : Nat) (l : Launch) (hst : l.stackTraces = false) (w : Om) (v1 : Int32) (m : Mem) (o : Int32 × Mem) (h : f_X10_count N v1 m = some o) : KI l yX10_count cX10_count 4 (some .int) 2 45 w [.ref (oa w 95), .int v1] m o.1 o.2 := KI_of hst (by decide +kernel) RX10 rfl (Nat.le_of_ble_eq_true rfl) (fun Γ hw hl C hE => by
  subst hw; subst hl
  exact t_X10_count N Γ C v1 m o h hE)
set_option maxRecDepth 100000 in
set_option maxHeartbeats 4000000 in
theorem t_X10_areBoth_22 (N : Nat) (Γ : Gc) (C : Cx Γ cX10_areBoth 3 RX10 (rmK 2 43 0)) (b : Int32 × Mem) (hE : EZn Γ 3 cX10_areBoth b) (s0 : Int32) (m : Mem) (h : B_X10_areBoth_22 N s0 m = some b) : G Γ 3 0 m 22 [(0, .ref (oa (gw Γ) 95))] [.int s0, .ref (oa (gw Γ) 95)] := by
  unfold B_X10_areBoth_22 at h
  obtain ⟨m_2, e_2, h⟩ := wr_some h
  refine g_putI (ci := 10) (j := 0) C dX10_areBoth_22 rfl (by decide) rfl inT_X10 (by decide) k_505 tyX10 tyX10_ok nmX10 rfl rfl rfl rfl rfl (G_m e_2 ?_)
  refine g_aload_n C dX10_areBoth_25 0 rfl rfl ?_
  refine g_getI (ci := 10) (j := 0) C dX10_areBoth_26 rfl (by decide) rfl inT_X10 (by decide) k_505 rfl rfl ?_
  refine g_if_ne (tgt := 36) C dX10_areBoth_29 (by decide) (fun c_3 => ?_) (fun c_3 => ?_)
  · replace h := it_f c_3 h
    refine g_iconst (v := (0 : Int32)) C dX10_areBoth_36 (by decide) ?_
    obtain rfl := Option.some.inj h
    exact hE 37 _ (show isB (0 : Int32) = true by decide) dX10_areBoth_37
  · replace h := it_t c_3 h
    refine g_iconst (v := (1 : Int32)) C dX10_areBoth_32 (by decide) ?_
    refine g_goto (tgt := 37) C dX10_areBoth_33 (by decide) ?_
    obtain rfl := Option.some.inj h
    exact hE 37 _ (show isB (1 : Int32) = true by decide) dX10_areBoth_37
set_option maxRecDepth 100000 in
set_option maxHeartbeats 4000000 in
theorem t_X10_areBoth_21 (N : Nat) (Γ : Gc) (C : Cx Γ cX10_areBoth 3 RX10 (rmK 2 43 0)) (b : Int32 × Mem) (hE : EZn Γ 3 cX10_areBoth b)  (m : Mem) (h : B_X10_areBoth_21 N  m = some b) : G Γ 3 0 m 21 [(0, .ref (oa (gw Γ) 95))] [.ref (oa (gw Γ) 95)] := by
  unfold B_X10_areBoth_21 at h
  refine g_iconst (v := (1 : Int32)) C dX10_areBoth_21 (by decide) ?_
  refine g_sub [0] rfl ?_
  exact t_X10_areBoth_22 N Γ C b hE (1 : Int32) m h
set_option maxRecDepth 100000 in
set_option maxHeartbeats 4000000 in
theorem t_X10_areBoth (N : Nat) (Γ : Gc) (C : Cx Γ cX10_areBoth 3 RX10 (rmK 2 43 0)) (v1 : Int32) (v2 : Int32) (m : Mem) (b : Int32 × Mem) (h : f_X10_areBoth N v1 v2 m = some b) (hE : EZn Γ 3 cX10_areBoth b) : G Γ 3 0 m 0 [(0, .ref (oa (gw Γ) 95)), (1, .int v1), (2, .int v2)] [] := by
  unfold f_X10_areBoth at h
  refine g_aload_n C dX10_areBoth_0 0 rfl rfl ?_
  refine g_aload_n C dX10_areBoth_1 0 rfl rfl ?_
  refine g_iload_n C dX10_areBoth_2 1 rfl rfl ?_
  obtain ⟨r_1, m_1, hk_1, h⟩ := b2_some h
  refine g_vI (As := [.int v1]) (a := 95) (ci := 10) C dX10_areBoth_3 mf_X10_isReviewer k_625 rfl (by decide) ⟨by decide, by decide⟩ rfl rfl (Nat.le_of_ble_eq_true rfl) (by decide) rfl (c_X10_isReviewer N (gl Γ) C.2.2.2.2 (gw Γ) v1 m _ hk_1) ?_
  refine g_if_eq (tgt := 21) C dX10_areBoth_6 (by decide) (fun c_6 => ?_) (fun c_6 => ?_)
  · replace h := it_t c_6 h
    refine g_sub [0] rfl ?_
    exact t_X10_areBoth_21 N Γ C b hE  m_1 h
  · replace h := it_f c_6 h
    refine g_aload_n C dX10_areBoth_9 0 rfl rfl ?_
    refine g_iload_n C dX10_areBoth_10 2 rfl rfl ?_
    obtain ⟨r_4, m_4, hk_4, h⟩ := b2_some h
    refine g_vI (As := [.int v2]) (a := 95) (ci := 10) C dX10_areBoth_11 mf_X10_isProposal k_629 rfl (by decide) ⟨by decide, by decide⟩ rfl rfl (Nat.le_of_ble_eq_true rfl) (by decide) rfl (c_X10_isProposal N (gl Γ) C.2.2.2.2 (gw Γ) v2 m_1 _ hk_4) ?_
    refine g_if_eq (tgt := 21) C dX10_areBoth_14 (by decide) (fun c_5 => ?_) (fun c_5 => ?_)
    · replace h := it_t c_5 h
      refine g_sub [0] rfl ?_
      exact t_X10_areBoth_21 N Γ C b hE  m_4 h
    · replace h := it_f c_5 h
      refine g_iconst (v := (0 : Int32)) C dX10_areBoth_17 (by decide) ?_
      refine g_goto (tgt := 22) C dX10_areBoth_18 (by decide) ?_
      refine g_sub [0] rfl ?_
      exact t_X10_areBoth_22 N Γ C b hE (0 : Int32) m_4 h
theorem c_X10_areBoth (N : Nat) (l : Launch) (hst : l.stackTraces = false) (w : Om) (v1 : Int32) (v2 : Int32) (m : Mem) (o : Int32 × Mem) (h : f_X10_areBoth N v1 v2 m = some o) : KI l yX10_areBoth cX10_areBoth 3 (some .boolean) 2 43 w [.ref (oa w 95), .int v1, .int v2] m o.1 o.2 := KZ_of hst (by decide +kernel) RX10 rfl (Nat.le_of_ble_eq_true rfl) (fun Γ hw hl C hE => by
  subst hw; subst hl
  exact t_X10_areBoth N Γ C v1 v2 m o h hE)
set_option maxRecDepth 100000 in
set_option maxHeartbeats 4000000 in
theorem t_X10_isConflict_22 (N : Nat) (Γ : Gc) (C : Cx Γ cX10_isConflict 3 RX10 (rmK 3 65 0)) (b : Int32 × Mem) (hE : EZn Γ 3 cX10_isConflict b)  (m : Mem) (h : B_X10_isConflict_22 N  m = some b) : G Γ 3 0 m 22 [] [] := by
  unfold B_X10_isConflict_22 at h
  refine g_iconst (v := (0 : Int32)) C dX10_isConflict_22 (by decide) ?_
  obtain rfl := Option.some.inj h
  exact hE 23 _ (show isB (0 : Int32) = true by decide) dX10_isConflict_23
set_option maxRecDepth 100000 in
set_option maxHeartbeats 4000000 in
theorem t_X10_isConflict (N : Nat) (Γ : Gc) (C : Cx Γ cX10_isConflict 3 RX10 (rmK 3 65 0)) (v1 : Int32) (v2 : Int32) (m : Mem) (b : Int32 × Mem) (h : f_X10_isConflict N v1 v2 m = some b) (hE : EZn Γ 3 cX10_isConflict b) : G Γ 3 0 m 0 [(0, .ref (oa (gw Γ) 95)), (1, .int v1), (2, .int v2)] [] := by
  unfold f_X10_isConflict at h
  refine g_aload_n C dX10_isConflict_0 0 rfl rfl ?_
  refine g_iload_n C dX10_isConflict_1 1 rfl rfl ?_
  refine g_iload_n C dX10_isConflict_2 2 rfl rfl ?_
  obtain ⟨r_1, m_1, hk_1, h⟩ := b2_some h
  refine g_vI (As := [.int v1, .int v2]) (a := 95) (ci := 10) C dX10_isConflict_3 mf_X10_areBoth k_633 rfl (by decide) ⟨by decide, by decide⟩ rfl rfl (Nat.le_of_ble_eq_true rfl) (by decide) rfl (c_X10_areBoth N (gl Γ) C.2.2.2.2 (gw Γ) v1 v2 m _ hk_1) ?_
  refine g_if_eq (tgt := 22) C dX10_isConflict_6 (by decide) (fun c_4 => ?_) (fun c_4 => ?_)
  · replace h := it_t c_4 h
    refine g_sub [] rfl ?_
    exact t_X10_isConflict_22 N Γ C b hE  m_1 h
  · replace h := it_f c_4 h
    refine g_aload_n C dX10_isConflict_9 0 rfl rfl ?_
    refine g_iload_n C dX10_isConflict_10 1 rfl rfl ?_
    refine g_iload_n C dX10_isConflict_11 2 rfl rfl ?_
    obtain ⟨r_2, m_2, hk_2, h⟩ := b2_some h
    refine g_vI (As := [.int v1, .int v2]) (a := 95) (ci := 10) C dX10_isConflict_12 mf_X10_hasConflict k_613 rfl (by decide) ⟨by decide, by decide⟩ rfl rfl (Nat.le_of_ble_eq_true rfl) (by decide) rfl (c_X10_hasConflict N (gl Γ) C.2.2.2.2 (gw Γ) v1 v2 m_1 _ hk_2) ?_
    refine g_if_eq (tgt := 22) C dX10_isConflict_15 (by decide) (fun c_3 => ?_) (fun c_3 => ?_)
    · replace h := it_t c_3 h
      refine g_sub [] rfl ?_
      exact t_X10_isConflict_22 N Γ C b hE  m_2 h
    · replace h := it_f c_3 h
      refine g_iconst (v := (1 : Int32)) C dX10_isConflict_18 (by decide) ?_
      refine g_goto (tgt := 23) C dX10_isConflict_19 (by decide) ?_
      obtain rfl := Option.some.inj h
      exact hE 23 _ (show isB (1 : Int32) = true by decide) dX10_isConflict_23
theorem c_X10_isConflict (N : Nat) (l : Launch) (hst : l.stackTraces = false) (w : Om) (v1 : Int32) (v2 : Int32) (m : Mem) (o : Int32 × Mem) (h : f_X10_isConflict N v1 v2 m = some o) : KI l yX10_isConflict cX10_isConflict 3 (some .boolean) 3 65 w [.ref (oa w 95), .int v1, .int v2] m o.1 o.2 := KZ_of hst (by decide +kernel) RX10 rfl (Nat.le_of_ble_eq_true rfl) (fun Γ hw hl C hE => by
  subst hw; subst hl
  exact t_X10_isConflict N Γ C v1 v2 m o h hE)
set_option maxRecDepth 100000 in
set_option maxHeartbeats 4000000 in
theorem t_X10_match (N : Nat) (Γ : Gc) (C : Cx Γ cX10_match 3 RX10 (rmK 3 65 0)) (v1 : Int32) (v2 : Int32) (m : Mem) (b : Int32 × Mem) (h : f_X10_match N v1 v2 m = some b) (hE : EIn Γ 3 cX10_match b) : G Γ 3 0 m 0 [(0, .ref (oa (gw Γ) 95)), (1, .int v1), (2, .int v2)] [] := by
  unfold f_X10_match at h
  refine g_aload_n C dX10_match_0 0 rfl rfl ?_
  refine g_iload_n C dX10_match_1 1 rfl rfl ?_
  refine g_iload_n C dX10_match_2 2 rfl rfl ?_
  obtain ⟨r_1, m_1, hk_1, h⟩ := b2_some h
  refine g_vI (As := [.int v1, .int v2]) (a := 95) (ci := 10) C dX10_match_3 mf_X10_areBoth k_633 rfl (by decide) ⟨by decide, by decide⟩ rfl rfl (Nat.le_of_ble_eq_true rfl) (by decide) rfl (c_X10_areBoth N (gl Γ) C.2.2.2.2 (gw Γ) v1 v2 m _ hk_1) ?_
  refine g_if_eq (tgt := 18) C dX10_match_6 (by decide) (fun c_3 => ?_) (fun c_3 => ?_)
  · replace h := it_t c_3 h
    refine g_iconst (v := (0 : Int32)) C dX10_match_18 (by decide) ?_
    obtain rfl := Option.some.inj h
    exact hE 19 _ dX10_match_19
  · replace h := it_f c_3 h
    refine g_aload_n C dX10_match_9 0 rfl rfl ?_
    refine g_iload_n C dX10_match_10 1 rfl rfl ?_
    refine g_iload_n C dX10_match_11 2 rfl rfl ?_
    obtain ⟨r_2, m_2, hk_2, h⟩ := b2_some h
    refine g_vI (As := [.int v1, .int v2]) (a := 95) (ci := 10) C dX10_match_12 mf_X10_matches k_637 rfl (by decide) ⟨by decide, by decide⟩ rfl rfl (Nat.le_of_ble_eq_true rfl) (by decide) rfl (c_X10_matches N (gl Γ) C.2.2.2.2 (gw Γ) v1 v2 m_1 _ hk_2) ?_
    refine g_goto (tgt := 19) C dX10_match_15 (by decide) ?_
    obtain rfl := Option.some.inj h
    exact hE 19 _ dX10_match_19
theorem c_X10_match (N : Nat) (l : Launch) (hst : l.stackTraces = false) (w : Om) (v1 : Int32) (v2 : Int32) (m : Mem) (o : Int32 × Mem) (h : f_X10_match N v1 v2 m = some o) : KI l yX10_match cX10_match 3 (some .int) 3 65 w [.ref (oa w 95), .int v1, .int v2] m o.1 o.2 := KI_of hst (by decide +kernel) RX10 rfl (Nat.le_of_ble_eq_true rfl) (fun Γ hw hl C hE => by
  subst hw; subst hl
  exact t_X10_match N Γ C v1 v2 m o h hE)
set_option maxRecDepth 100000 in
set_option maxHeartbeats 4000000 in
theorem t_X10_declare_47 (N : Nat) (Γ : Gc) (C : Cx Γ cX10_declare 4 RX10 (rmK 3 65 0)) (b : Int32 × Mem) (hE : EZn Γ 4 cX10_declare b) (v1 : Int32) (v2 : Int32) (s0 : Int32) (m : Mem) (h : B_X10_declare_47 N v1 v2 s0 m = some b) : G Γ 4 0 m 47 [(0, .ref (oa (gw Γ) 95)), (1, .int v1), (2, .int v2)] [.int s0] := by
  unfold B_X10_declare_47 at h
  refine g_istore_n (lv' := [(3, .int s0), (0, .ref (oa (gw Γ) 95)), (1, .int v1), (2, .int v2)]) C dX10_declare_47 rfl (by decide) rfl ?_
  refine g_aload_n C dX10_declare_48 1 rfl rfl ?_
  obtain ⟨m_5, hk_5, h⟩ := b1_some h
  refine g_vV (As := []) (a := 95) (ci := 10) C dX10_declare_49 mf_X10_keeps k_641 rfl (by decide) ⟨by decide, by decide⟩ rfl rfl (Nat.le_of_ble_eq_true rfl) (by decide) rfl (c_X10_keeps N (gl Γ) C.2.2.2.2 (gw Γ)  m _ hk_5) ?_
  refine g_aload_n C dX10_declare_52 1 rfl rfl ?_
  refine g_getT (b := 98) (ci := 10) (j := 3) C dX10_declare_53 rfl (by decide) rfl inT_X10 (by decide) k_588 rfl rfl rfl rfl ?_
  refine g_iconst (v := (2 : Int32)) C dX10_declare_56 (by decide) ?_
  refine g_iload_n C dX10_declare_57 2 rfl rfl ?_
  refine g_iadd C dX10_declare_58 ?_
  refine g_dup2 C dX10_declare_59 rfl rfl ?_
  obtain ⟨g_6, h⟩ := gd_some h
  refine g_iald C dX10_declare_60 (okA_of rfl rfl g_6) ?_
  refine g_iconst (v := (1 : Int32)) C dX10_declare_61 (by decide) ?_
  refine g_iload_n C dX10_declare_62 3 rfl rfl ?_
  refine g_ishl C dX10_declare_63 ?_
  refine g_ior C dX10_declare_64 ?_
  obtain ⟨m_7, e_7, h⟩ := wr_some h
  refine g_iast C dX10_declare_65 (okA_of rfl rfl g_6) (G_m e_7 ?_)
  refine g_iload_n C dX10_declare_66 0 rfl rfl ?_
  obtain ⟨g_8, h⟩ := gd_some h
  obtain rfl := Option.some.inj h
  exact hE 67 _ g_8 dX10_declare_67
set_option maxRecDepth 100000 in
set_option maxHeartbeats 4000000 in
theorem t_X10_declare (N : Nat) (Γ : Gc) (C : Cx Γ cX10_declare 4 RX10 (rmK 3 65 0)) (v1 : Int32) (v2 : Int32) (m : Mem) (b : Int32 × Mem) (h : f_X10_declare N v1 v2 m = some b) (hE : EZn Γ 4 cX10_declare b) : G Γ 4 0 m 0 [(0, .ref (oa (gw Γ) 95)), (1, .int v1), (2, .int v2)] [] := by
  unfold f_X10_declare at h
  refine g_aload_n C dX10_declare_0 0 rfl rfl ?_
  refine g_iload_n C dX10_declare_1 1 rfl rfl ?_
  refine g_iload_n C dX10_declare_2 2 rfl rfl ?_
  obtain ⟨r_1, m_1, hk_1, h⟩ := b2_some h
  refine g_vI (As := [.int v1, .int v2]) (a := 95) (ci := 10) C dX10_declare_3 mf_X10_areBoth k_633 rfl (by decide) ⟨by decide, by decide⟩ rfl rfl (Nat.le_of_ble_eq_true rfl) (by decide) rfl (c_X10_areBoth N (gl Γ) C.2.2.2.2 (gw Γ) v1 v2 m _ hk_1) ?_
  refine g_if_ne (tgt := 11) C dX10_declare_6 (by decide) (fun c_12 => ?_) (fun c_12 => ?_)
  · replace h := it_f c_12 h
    refine g_aload_n C dX10_declare_11 0 rfl rfl ?_
    refine g_iload_n C dX10_declare_12 1 rfl rfl ?_
    refine g_iload_n C dX10_declare_13 2 rfl rfl ?_
    obtain ⟨r_2, m_2, hk_2, h⟩ := b2_some h
    refine g_vI (As := [.int v1, .int v2]) (a := 95) (ci := 10) C dX10_declare_14 mf_X10_isReview k_594 rfl (by decide) ⟨by decide, by decide⟩ rfl rfl (Nat.le_of_ble_eq_true rfl) (by decide) rfl (c_X10_isReview N (gl Γ) C.2.2.2.2 (gw Γ) v1 v2 m_1 _ hk_2) ?_
    refine g_if_eq (tgt := 27) C dX10_declare_17 (by decide) (fun c_11 => ?_) (fun c_11 => ?_)
    · replace h := it_t c_11 h
      refine g_aload_n C dX10_declare_27 0 rfl rfl ?_
      refine g_getT (b := 98) (ci := 10) (j := 3) C dX10_declare_28 rfl (by decide) rfl inT_X10 (by decide) k_588 rfl rfl rfl rfl ?_
      refine g_iconst (v := (2 : Int32)) C dX10_declare_31 (by decide) ?_
      refine g_iload_n C dX10_declare_32 1 rfl rfl ?_
      refine g_iadd C dX10_declare_33 ?_
      obtain ⟨g_3, h⟩ := gd_some h
      refine g_iald C dX10_declare_34 (okA_of rfl rfl g_3) ?_
      refine g_iload_n C dX10_declare_35 2 rfl rfl ?_
      obtain ⟨r_4, m_4, hk_4, h⟩ := b2_some h
      refine g_sI (As := [.int (gI m_2 98 ((2 : Int32) + v1).toNatClampNeg), .int v2]) C dX10_declare_36 mf_X10_has k_591 ⟨by decide, by decide⟩ rfl rfl (Nat.le_of_ble_eq_true rfl) (by decide) (c_X10_has N (gl Γ) C.2.2.2.2 (gw Γ) (gI m_2 98 ((2 : Int32) + v1).toNatClampNeg) v2 m_2 _ hk_4) ?_
      refine g_if_ne (tgt := 46) C dX10_declare_39 (by decide) (fun c_9 => ?_) (fun c_9 => ?_)
      · replace h := it_f c_9 h
        refine g_iconst (v := (0 : Int32)) C dX10_declare_46 (by decide) ?_
        refine g_sub [0, 1, 2] rfl ?_
        exact t_X10_declare_47 N Γ C b hE v1 v2 (0 : Int32) m_4 h
      · replace h := it_t c_9 h
        refine g_iconst (v := (1 : Int32)) C dX10_declare_42 (by decide) ?_
        refine g_goto (tgt := 47) C dX10_declare_43 (by decide) ?_
        refine g_sub [0, 1, 2] rfl ?_
        exact t_X10_declare_47 N Γ C b hE v1 v2 (1 : Int32) m_4 h
    · replace h := it_f c_11 h
      refine g_aload_n C dX10_declare_20 0 rfl rfl ?_
      refine g_iconst (v := (2 : Int32)) C dX10_declare_21 (by decide) ?_
      obtain ⟨m_10, e_10, h⟩ := wr_some h
      refine g_putI (ci := 10) (j := 0) C dX10_declare_22 rfl (by decide) rfl inT_X10 (by decide) k_505 tyX10 tyX10_ok nmX10 rfl rfl rfl rfl rfl (G_m e_10 ?_)
      refine g_iconst (v := (0 : Int32)) C dX10_declare_25 (by decide) ?_
      obtain rfl := Option.some.inj h
      exact hE 26 _ (show isB (0 : Int32) = true by decide) dX10_declare_26
  · replace h := it_t c_12 h
    refine g_iconst (v := (0 : Int32)) C dX10_declare_9 (by decide) ?_
    obtain rfl := Option.some.inj h
    exact hE 10 _ (show isB (0 : Int32) = true by decide) dX10_declare_10
theorem c_X10_declare (N : Nat) (l : Launch) (hst : l.stackTraces = false) (w : Om) (v1 : Int32) (v2 : Int32) (m : Mem) (o : Int32 × Mem) (h : f_X10_declare N v1 v2 m = some o) : KI l yX10_declare cX10_declare 4 (some .boolean) 3 65 w [.ref (oa w 95), .int v1, .int v2] m o.1 o.2 := KZ_of hst (by decide +kernel) RX10 rfl (Nat.le_of_ble_eq_true rfl) (fun Γ hw hl C hE => by
  subst hw; subst hl
  exact t_X10_declare N Γ C v1 v2 m o h hE)
set_option maxRecDepth 100000 in
set_option maxHeartbeats 4000000 in
theorem t_X10_assign_63 (N : Nat) (Γ : Gc) (C : Cx Γ cX10_assign 3 RX10 (rmK 3 66 0)) (b : Int32 × Mem) (hE : EIn Γ 3 cX10_assign b)  (m : Mem) (h : B_X10_assign_63 N  m = some b) : G Γ 3 0 m 63 [(0, .ref (oa (gw Γ) 95))] [] := by
  unfold B_X10_assign_63 at h
  refine g_aload_n C dX10_assign_63 0 rfl rfl ?_
  refine g_iconst (v := (3 : Int32)) C dX10_assign_64 (by decide) ?_
  obtain ⟨r_4, m_4, hk_4, h⟩ := b2_some h
  refine g_vI (As := [.int (3 : Int32)]) (a := 95) (ci := 10) C dX10_assign_65 mf_X10_fails k_517 rfl (by decide) ⟨by decide, by decide⟩ rfl rfl (Nat.le_of_ble_eq_true rfl) (by decide) rfl (c_X10_fails N (gl Γ) C.2.2.2.2 (gw Γ) (3 : Int32) m _ hk_4) ?_
  obtain rfl := Option.some.inj h
  exact hE 68 _ dX10_assign_68
set_option maxRecDepth 100000 in
set_option maxHeartbeats 4000000 in
theorem t_X10_assign (N : Nat) (Γ : Gc) (C : Cx Γ cX10_assign 3 RX10 (rmK 3 66 0)) (v1 : Int32) (v2 : Int32) (m : Mem) (b : Int32 × Mem) (h : f_X10_assign N v1 v2 m = some b) (hE : EIn Γ 3 cX10_assign b) : G Γ 3 0 m 0 [(0, .ref (oa (gw Γ) 95)), (1, .int v1), (2, .int v2)] [] := by
  unfold f_X10_assign at h
  refine g_aload_n C dX10_assign_0 0 rfl rfl ?_
  refine g_iload_n C dX10_assign_1 1 rfl rfl ?_
  refine g_iload_n C dX10_assign_2 2 rfl rfl ?_
  obtain ⟨r_1, m_1, hk_1, h⟩ := b2_some h
  refine g_vI (As := [.int v1, .int v2]) (a := 95) (ci := 10) C dX10_assign_3 mf_X10_areBoth k_633 rfl (by decide) ⟨by decide, by decide⟩ rfl rfl (Nat.le_of_ble_eq_true rfl) (by decide) rfl (c_X10_areBoth N (gl Γ) C.2.2.2.2 (gw Γ) v1 v2 m _ hk_1) ?_
  refine g_if_ne (tgt := 11) C dX10_assign_6 (by decide) (fun c_17 => ?_) (fun c_17 => ?_)
  · replace h := it_f c_17 h
    refine g_aload_n C dX10_assign_11 0 rfl rfl ?_
    refine g_iload_n C dX10_assign_12 1 rfl rfl ?_
    refine g_iload_n C dX10_assign_13 2 rfl rfl ?_
    obtain ⟨r_2, m_2, hk_2, h⟩ := b2_some h
    refine g_vI (As := [.int v1, .int v2]) (a := 95) (ci := 10) C dX10_assign_14 mf_X10_fits k_645 rfl (by decide) ⟨by decide, by decide⟩ rfl rfl (Nat.le_of_ble_eq_true rfl) (by decide) rfl (c_X10_fits N (gl Γ) C.2.2.2.2 (gw Γ) v1 v2 m_1 _ hk_2) ?_
    refine g_if_ne (tgt := 26) C dX10_assign_17 (by decide) (fun c_16 => ?_) (fun c_16 => ?_)
    · replace h := it_f c_16 h
      refine g_aload_n C dX10_assign_26 0 rfl rfl ?_
      refine g_iload_n C dX10_assign_27 1 rfl rfl ?_
      refine g_iload_n C dX10_assign_28 2 rfl rfl ?_
      obtain ⟨r_3, m_3, hk_3, h⟩ := b2_some h
      refine g_vI (As := [.int v1, .int v2]) (a := 95) (ci := 10) C dX10_assign_29 mf_X10_isReview k_594 rfl (by decide) ⟨by decide, by decide⟩ rfl rfl (Nat.le_of_ble_eq_true rfl) (by decide) rfl (c_X10_isReview N (gl Γ) C.2.2.2.2 (gw Γ) v1 v2 m_2 _ hk_3) ?_
      refine g_if_ne (tgt := 63) C dX10_assign_32 (by decide) (fun c_14 => ?_) (fun c_14 => ?_)
      · replace h := it_f c_14 h
        refine g_sub [0] rfl ?_
        exact t_X10_assign_63 N Γ C b hE  m_3 h
      · replace h := it_t c_14 h
        refine g_aload_n C dX10_assign_35 0 rfl rfl ?_
        refine g_iload_n C dX10_assign_36 1 rfl rfl ?_
        obtain ⟨r_5, m_5, hk_5, h⟩ := b2_some h
        refine g_vI (As := [.int v1]) (a := 95) (ci := 10) C dX10_assign_37 mf_X10_reviewsBy k_621 rfl (by decide) ⟨by decide, by decide⟩ rfl rfl (Nat.le_of_ble_eq_true rfl) (by decide) rfl (c_X10_reviewsBy N (gl Γ) C.2.2.2.2 (gw Γ) v1 m_3 _ hk_5) ?_
        refine g_aload_n C dX10_assign_40 0 rfl rfl ?_
        refine g_iload_n C dX10_assign_41 1 rfl rfl ?_
        refine g_iconst (v := (2 : Int32)) C dX10_assign_42 (by decide) ?_
        obtain ⟨r_6, m_6, hk_6, h⟩ := b2_some h
        refine g_vI (As := [.int v1, .int (2 : Int32)]) (a := 95) (ci := 10) C dX10_assign_43 mf_X10_reviewer k_605 rfl (by decide) ⟨by decide, by decide⟩ rfl rfl (Nat.le_of_ble_eq_true rfl) (by decide) rfl (c_X10_reviewer N (gl Γ) C.2.2.2.2 (gw Γ) v1 (2 : Int32) m_5 _ hk_6) ?_
        refine g_icmp_ge (tgt := 63) C dX10_assign_46 (by decide) (fun c_13 => ?_) (fun c_13 => ?_)
        · replace h := it_t c_13 h
          refine g_sub [0] rfl ?_
          exact t_X10_assign_63 N Γ C b hE  m_6 h
        · replace h := it_f c_13 h
          refine g_aload_n C dX10_assign_49 0 rfl rfl ?_
          refine g_iload_n C dX10_assign_50 2 rfl rfl ?_
          obtain ⟨r_7, m_7, hk_7, h⟩ := b2_some h
          refine g_vI (As := [.int v2]) (a := 95) (ci := 10) C dX10_assign_51 mf_X10_reviewsOf k_649 rfl (by decide) ⟨by decide, by decide⟩ rfl rfl (Nat.le_of_ble_eq_true rfl) (by decide) rfl (c_X10_reviewsOf N (gl Γ) C.2.2.2.2 (gw Γ) v2 m_6 _ hk_7) ?_
          refine g_aload_n C dX10_assign_54 0 rfl rfl ?_
          refine g_getT (b := 96) (ci := 10) (j := 1) C dX10_assign_55 rfl (by decide) rfl inT_X10 (by decide) k_506 rfl rfl rfl rfl ?_
          refine g_iconst (v := (3 : Int32)) C dX10_assign_58 (by decide) ?_
          refine g_iald' (j := 3) C dX10_assign_59 (okA_of rfl rfl (by decide)) (by decide) ?_
          refine g_icmp_lt (tgt := 69) C dX10_assign_60 (by decide) (fun c_12 => ?_) (fun c_12 => ?_)
          · replace h := it_t c_12 h
            refine g_aload_n C dX10_assign_69 0 rfl rfl ?_
            obtain ⟨m_8, hk_8, h⟩ := b1_some h
            refine g_vV (As := []) (a := 95) (ci := 10) C dX10_assign_70 mf_X10_keeps k_641 rfl (by decide) ⟨by decide, by decide⟩ rfl rfl (Nat.le_of_ble_eq_true rfl) (by decide) rfl (c_X10_keeps N (gl Γ) C.2.2.2.2 (gw Γ)  m_7 _ hk_8) ?_
            refine g_aload_n C dX10_assign_73 0 rfl rfl ?_
            refine g_getT (b := 98) (ci := 10) (j := 3) C dX10_assign_74 rfl (by decide) rfl inT_X10 (by decide) k_588 rfl rfl rfl rfl ?_
            refine g_bipush (v := (14 : Int32)) C dX10_assign_77 (by decide) ?_
            refine g_iload_n C dX10_assign_79 1 rfl rfl ?_
            refine g_iadd C dX10_assign_80 ?_
            refine g_dup2 C dX10_assign_81 rfl rfl ?_
            obtain ⟨g_9, h⟩ := gd_some h
            refine g_iald C dX10_assign_82 (okA_of rfl rfl g_9) ?_
            refine g_iconst (v := (1 : Int32)) C dX10_assign_83 (by decide) ?_
            refine g_iload_n C dX10_assign_84 2 rfl rfl ?_
            refine g_ishl C dX10_assign_85 ?_
            refine g_ior C dX10_assign_86 ?_
            obtain ⟨m_10, e_10, h⟩ := wr_some h
            refine g_iast C dX10_assign_87 (okA_of rfl rfl g_9) (G_m e_10 ?_)
            refine g_aload_n C dX10_assign_88 0 rfl rfl ?_
            refine g_iload_n C dX10_assign_89 2 rfl rfl ?_
            obtain ⟨r_11, m_11, hk_11, h⟩ := b2_some h
            refine g_vI (As := [.int v2]) (a := 95) (ci := 10) C dX10_assign_90 mf_X10_reviewsOf k_649 rfl (by decide) ⟨by decide, by decide⟩ rfl rfl (Nat.le_of_ble_eq_true rfl) (by decide) rfl (c_X10_reviewsOf N (gl Γ) C.2.2.2.2 (gw Γ) v2 m_10 _ hk_11) ?_
            obtain rfl := Option.some.inj h
            exact hE 93 _ dX10_assign_93
          · replace h := it_f c_12 h
            refine g_sub [0] rfl ?_
            exact t_X10_assign_63 N Γ C b hE  m_7 h
    · replace h := it_t c_16 h
      refine g_aload_n C dX10_assign_20 0 rfl rfl ?_
      refine g_iconst (v := (2 : Int32)) C dX10_assign_21 (by decide) ?_
      obtain ⟨r_15, m_15, hk_15, h⟩ := b2_some h
      refine g_vI (As := [.int (2 : Int32)]) (a := 95) (ci := 10) C dX10_assign_22 mf_X10_fails k_517 rfl (by decide) ⟨by decide, by decide⟩ rfl rfl (Nat.le_of_ble_eq_true rfl) (by decide) rfl (c_X10_fails N (gl Γ) C.2.2.2.2 (gw Γ) (2 : Int32) m_2 _ hk_15) ?_
      obtain rfl := Option.some.inj h
      exact hE 25 _ dX10_assign_25
  · replace h := it_t c_17 h
    refine g_iconst (v := (0 : Int32)) C dX10_assign_9 (by decide) ?_
    obtain rfl := Option.some.inj h
    exact hE 10 _ dX10_assign_10
theorem c_X10_assign (N : Nat) (l : Launch) (hst : l.stackTraces = false) (w : Om) (v1 : Int32) (v2 : Int32) (m : Mem) (o : Int32 × Mem) (h : f_X10_assign N v1 v2 m = some o) : KI l yX10_assign cX10_assign 3 (some .int) 3 66 w [.ref (oa w 95), .int v1, .int v2] m o.1 o.2 := KI_of hst (by decide +kernel) RX10 rfl (Nat.le_of_ble_eq_true rfl) (fun Γ hw hl C hE => by
  subst hw; subst hl
  exact t_X10_assign N Γ C v1 v2 m o h hE)
set_option maxRecDepth 100000 in
set_option maxHeartbeats 4000000 in
theorem t_X10_removes (N : Nat) (Γ : Gc) (C : Cx Γ cX10_removes 3 RX10 (rmK 0 0 0)) (v1 : Int32) (v2 : Int32) (m : Mem) (b : Mem) (h : f_X10_removes N v1 v2 m = some b) (hE : EVn Γ 3 cX10_removes b) : G Γ 3 0 m 0 [(0, .ref (oa (gw Γ) 95)), (1, .int v1), (2, .int v2)] [] := by
  unfold f_X10_removes at h
  refine g_aload_n C dX10_removes_0 0 rfl rfl ?_
  refine g_getT (b := 98) (ci := 10) (j := 3) C dX10_removes_1 rfl (by decide) rfl inT_X10 (by decide) k_588 rfl rfl rfl rfl ?_
  refine g_bipush (v := (14 : Int32)) C dX10_removes_4 (by decide) ?_
  refine g_iload_n C dX10_removes_6 1 rfl rfl ?_
  refine g_iadd C dX10_removes_7 ?_
  refine g_dup2 C dX10_removes_8 rfl rfl ?_
  obtain ⟨g_1, h⟩ := gd_some h
  refine g_iald C dX10_removes_9 (okA_of rfl rfl g_1) ?_
  refine g_iconst (v := (1 : Int32)) C dX10_removes_10 (by decide) ?_
  refine g_iload_n C dX10_removes_11 2 rfl rfl ?_
  refine g_ishl C dX10_removes_12 ?_
  refine g_iconst (v := (-1 : Int32)) C dX10_removes_13 (by decide) ?_
  refine g_ixor C dX10_removes_14 ?_
  refine g_iand C dX10_removes_15 ?_
  obtain ⟨m_2, e_2, h⟩ := wr_some h
  refine g_iast C dX10_removes_16 (okA_of rfl rfl g_1) (G_m e_2 ?_)
  refine g_aload_n C dX10_removes_17 0 rfl rfl ?_
  refine g_getT (b := 98) (ci := 10) (j := 3) C dX10_removes_18 rfl (by decide) rfl inT_X10 (by decide) k_588 rfl rfl rfl rfl ?_
  refine g_bipush (v := (26 : Int32)) C dX10_removes_21 (by decide) ?_
  refine g_bipush (v := (16 : Int32)) C dX10_removes_23 (by decide) ?_
  refine g_iload_n C dX10_removes_25 1 rfl rfl ?_
  refine g_imul C dX10_removes_26 ?_
  refine g_iadd C dX10_removes_27 ?_
  refine g_iload_n C dX10_removes_28 2 rfl rfl ?_
  refine g_iadd C dX10_removes_29 ?_
  refine g_iconst (v := (0 : Int32)) C dX10_removes_30 (by decide) ?_
  obtain ⟨g_3, h⟩ := gd_some h
  obtain ⟨m_4, e_4, h⟩ := wr_some h
  refine g_iast C dX10_removes_31 (okA_of rfl rfl g_3) (G_m e_4 ?_)
  obtain rfl := Option.some.inj h
  exact hE 32 _ dX10_removes_32
theorem c_X10_removes (N : Nat) (l : Launch) (hst : l.stackTraces = false) (w : Om) (v1 : Int32) (v2 : Int32) (m : Mem) (o : Mem) (h : f_X10_removes N v1 v2 m = some o) : KV l yX10_removes cX10_removes 3 none 0 0 w [.ref (oa w 95), .int v1, .int v2] m o := KV_of hst (by decide +kernel) RX10 rfl (Nat.le_of_ble_eq_true rfl) (fun Γ hw hl C hE => by
  subst hw; subst hl
  exact t_X10_removes N Γ C v1 v2 m o h hE)
set_option maxRecDepth 100000 in
set_option maxHeartbeats 4000000 in
theorem t_X10_orNone (N : Nat) (Γ : Gc) (C : Cx Γ cX10_orNone 1 RX10 (rmK 0 0 0)) (v0 : Int32) (m : Mem) (b : Int32 × Mem) (h : f_X10_orNone N v0 m = some b) (hE : EIn Γ 1 cX10_orNone b) : G Γ 1 0 m 0 [(0, .int v0)] [] := by
  unfold f_X10_orNone at h
  refine g_iload_n C dX10_orNone_0 0 rfl rfl ?_
  refine g_if_ne (tgt := 8) C dX10_orNone_1 (by decide) (fun c_1 => ?_) (fun c_1 => ?_)
  · replace h := it_f c_1 h
    refine g_iload_n C dX10_orNone_8 0 rfl rfl ?_
    obtain rfl := Option.some.inj h
    exact hE 9 _ dX10_orNone_9
  · replace h := it_t c_1 h
    refine g_iconst (v := (-1 : Int32)) C dX10_orNone_4 (by decide) ?_
    refine g_goto (tgt := 9) C dX10_orNone_5 (by decide) ?_
    obtain rfl := Option.some.inj h
    exact hE 9 _ dX10_orNone_9
theorem c_X10_orNone (N : Nat) (l : Launch) (hst : l.stackTraces = false) (w : Om) (v0 : Int32) (m : Mem) (o : Int32 × Mem) (h : f_X10_orNone N v0 m = some o) : KI l yX10_orNone cX10_orNone 1 (some .int) 0 0 w [.int v0] m o.1 o.2 := KI_of hst (by decide +kernel) RX10 rfl (Nat.le_of_ble_eq_true rfl) (fun Γ hw hl C hE => by
  subst hw; subst hl
  exact t_X10_orNone N Γ C v0 m o h hE)
set_option maxRecDepth 100000 in
set_option maxHeartbeats 4000000 in
theorem t_X10_unassign (N : Nat) (Γ : Gc) (C : Cx Γ cX10_unassign 4 RX10 (rmK 3 65 0)) (v1 : Int32) (v2 : Int32) (m : Mem) (b : Int32 × Mem) (h : f_X10_unassign N v1 v2 m = some b) (hE : EIn Γ 4 cX10_unassign b) : G Γ 4 0 m 0 [(0, .ref (oa (gw Γ) 95)), (1, .int v1), (2, .int v2)] [] := by
  unfold f_X10_unassign at h
  refine g_aload_n C dX10_unassign_0 0 rfl rfl ?_
  refine g_iload_n C dX10_unassign_1 1 rfl rfl ?_
  refine g_iload_n C dX10_unassign_2 2 rfl rfl ?_
  obtain ⟨r_1, m_1, hk_1, h⟩ := b2_some h
  refine g_vI (As := [.int v1, .int v2]) (a := 95) (ci := 10) C dX10_unassign_3 mf_X10_areBoth k_633 rfl (by decide) ⟨by decide, by decide⟩ rfl rfl (Nat.le_of_ble_eq_true rfl) (by decide) rfl (c_X10_areBoth N (gl Γ) C.2.2.2.2 (gw Γ) v1 v2 m _ hk_1) ?_
  refine g_if_ne (tgt := 11) C dX10_unassign_6 (by decide) (fun c_9 => ?_) (fun c_9 => ?_)
  · replace h := it_f c_9 h
    refine g_aload_n C dX10_unassign_11 0 rfl rfl ?_
    refine g_iload_n C dX10_unassign_12 1 rfl rfl ?_
    refine g_iload_n C dX10_unassign_13 2 rfl rfl ?_
    obtain ⟨r_2, m_2, hk_2, h⟩ := b2_some h
    refine g_vI (As := [.int v1, .int v2]) (a := 95) (ci := 10) C dX10_unassign_14 mf_X10_isReview k_594 rfl (by decide) ⟨by decide, by decide⟩ rfl rfl (Nat.le_of_ble_eq_true rfl) (by decide) rfl (c_X10_isReview N (gl Γ) C.2.2.2.2 (gw Γ) v1 v2 m_1 _ hk_2) ?_
    refine g_if_ne (tgt := 26) C dX10_unassign_17 (by decide) (fun c_8 => ?_) (fun c_8 => ?_)
    · replace h := it_f c_8 h
      refine g_aload_n C dX10_unassign_26 0 rfl rfl ?_
      obtain ⟨m_3, hk_3, h⟩ := b1_some h
      refine g_vV (As := []) (a := 95) (ci := 10) C dX10_unassign_27 mf_X10_keeps k_641 rfl (by decide) ⟨by decide, by decide⟩ rfl rfl (Nat.le_of_ble_eq_true rfl) (by decide) rfl (c_X10_keeps N (gl Γ) C.2.2.2.2 (gw Γ)  m_2 _ hk_3) ?_
      refine g_aload_n C dX10_unassign_30 0 rfl rfl ?_
      refine g_iload_n C dX10_unassign_31 1 rfl rfl ?_
      refine g_iload_n C dX10_unassign_32 2 rfl rfl ?_
      obtain ⟨r_4, m_4, hk_4, h⟩ := b2_some h
      refine g_vI (As := [.int v1, .int v2]) (a := 95) (ci := 10) C dX10_unassign_33 mf_X10_score k_601 rfl (by decide) ⟨by decide, by decide⟩ rfl rfl (Nat.le_of_ble_eq_true rfl) (by decide) rfl (c_X10_score N (gl Γ) C.2.2.2.2 (gw Γ) v1 v2 m_3 _ hk_4) ?_
      refine g_istore_n (lv' := [(3, .int r_4), (0, .ref (oa (gw Γ) 95)), (1, .int v1), (2, .int v2)]) C dX10_unassign_36 rfl (by decide) rfl ?_
      refine g_aload_n C dX10_unassign_37 1 rfl rfl ?_
      refine g_iload_n C dX10_unassign_38 2 rfl rfl ?_
      refine g_iload_n C dX10_unassign_39 3 rfl rfl ?_
      obtain ⟨m_5, hk_5, h⟩ := b1_some h
      refine g_vV (As := [.int v1, .int v2]) (a := 95) (ci := 10) C dX10_unassign_40 mf_X10_removes k_653 rfl (by decide) ⟨by decide, by decide⟩ rfl rfl (Nat.le_of_ble_eq_true rfl) (by decide) rfl (c_X10_removes N (gl Γ) C.2.2.2.2 (gw Γ) v1 v2 m_4 _ hk_5) ?_
      refine g_iload_n C dX10_unassign_43 0 rfl rfl ?_
      obtain ⟨r_6, m_6, hk_6, h⟩ := b2_some h
      refine g_sI (As := [.int r_4]) C dX10_unassign_44 mf_X10_orNone k_657 ⟨by decide, by decide⟩ rfl rfl (Nat.le_of_ble_eq_true rfl) (by decide) (c_X10_orNone N (gl Γ) C.2.2.2.2 (gw Γ) r_4 m_5 _ hk_6) ?_
      obtain rfl := Option.some.inj h
      exact hE 47 _ dX10_unassign_47
    · replace h := it_t c_8 h
      refine g_aload_n C dX10_unassign_20 0 rfl rfl ?_
      refine g_iconst (v := (2 : Int32)) C dX10_unassign_21 (by decide) ?_
      obtain ⟨r_7, m_7, hk_7, h⟩ := b2_some h
      refine g_vI (As := [.int (2 : Int32)]) (a := 95) (ci := 10) C dX10_unassign_22 mf_X10_fails k_517 rfl (by decide) ⟨by decide, by decide⟩ rfl rfl (Nat.le_of_ble_eq_true rfl) (by decide) rfl (c_X10_fails N (gl Γ) C.2.2.2.2 (gw Γ) (2 : Int32) m_2 _ hk_7) ?_
      obtain rfl := Option.some.inj h
      exact hE 25 _ dX10_unassign_25
  · replace h := it_t c_9 h
    refine g_iconst (v := (0 : Int32)) C dX10_unassign_9 (by decide) ?_
    obtain rfl := Option.some.inj h
    exact hE 10 _ dX10_unassign_10
theorem c_X10_unassign (N : Nat) (l : Launch) (hst : l.stackTraces = false) (w : Om) (v1 : Int32) (v2 : Int32) (m : Mem) (o : Int32 × Mem) (h : f_X10_unassign N v1 v2 m = some o) : KI l yX10_unassign cX10_unassign 4 (some .int) 3 65 w [.ref (oa w 95), .int v1, .int v2] m o.1 o.2 := KI_of hst (by decide +kernel) RX10 rfl (Nat.le_of_ble_eq_true rfl) (fun Γ hw hl C hE => by
  subst hw; subst hl
  exact t_X10_unassign N Γ C v1 v2 m o h hE)
def Ex_X10_chooses_4 (Γ : Gc) (cs : Nat) (b : Int32 × Mem) : Prop := (∀ (y2 : Int32) (m' : Mem), b = (y2, m') → G Γ 5 cs m' 108 [(2, .int y2)] [])
set_option maxRecDepth 100000 in
set_option maxHeartbeats 4000000 in
theorem t_X10_chooses_101 (N : Nat) (Γ : Gc) (C : Cx Γ cX10_chooses 5 RX10 (rmK 3 66 0)) (rc : Int32 → Int32 → Int32 → Mem → Option (Int32 × Mem)) (b : Int32 × Mem) (hE : Ex_X10_chooses_4 Γ 0 b) (hrec : ∀ (v1 : Int32) (v2 : Int32) (v3 : Int32) (m : Mem) (b : Int32 × Mem), rc v1 v2 v3 m = some b → Ex_X10_chooses_4 Γ 0 b → G Γ 5 0 m 4 [(0, .ref (oa (gw Γ) 95)), (1, .int v1), (2, .int v2), (3, .int v3)] []) (v1 : Int32) (v3 : Int32) (s0 : Int32) (m : Mem) (h : B_X10_chooses_101 N rc v1 v3 s0 m = some b) : G Γ 5 0 m 101 [(0, .ref (oa (gw Γ) 95)), (1, .int v1), (3, .int v3)] [.int s0] := by
  unfold B_X10_chooses_101 at h
  refine g_istore_n (lv' := [(2, .int s0), (0, .ref (oa (gw Γ) 95)), (1, .int v1), (3, .int v3)]) C dX10_chooses_101 rfl (by decide) rfl ?_
  refine g_iinc (q := 3) (v := v3 + (1 : Int32)) (lv' := [(3, .int (v3 + (1 : Int32))), (2, .int s0), (0, .ref (oa (gw Γ) 95)), (1, .int v1)]) C dX10_chooses_102 rfl rfl (by decide) rfl ?_
  refine g_goto (tgt := 4) C dX10_chooses_105 (by decide) ?_
  refine g_sub [2, 3, 1, 0] rfl ?_
  exact hrec v1 s0 (v3 + (1 : Int32)) m b h hE
set_option maxRecDepth 100000 in
set_option maxHeartbeats 4000000 in
theorem t_X10_chooses_96 (N : Nat) (Γ : Gc) (C : Cx Γ cX10_chooses 5 RX10 (rmK 3 66 0)) (rc : Int32 → Int32 → Int32 → Mem → Option (Int32 × Mem)) (b : Int32 × Mem) (hE : Ex_X10_chooses_4 Γ 0 b) (hrec : ∀ (v1 : Int32) (v2 : Int32) (v3 : Int32) (m : Mem) (b : Int32 × Mem), rc v1 v2 v3 m = some b → Ex_X10_chooses_4 Γ 0 b → G Γ 5 0 m 4 [(0, .ref (oa (gw Γ) 95)), (1, .int v1), (2, .int v2), (3, .int v3)] []) (v1 : Int32) (v3 : Int32) (m : Mem) (h : B_X10_chooses_96 N rc v1 v3 m = some b) : G Γ 5 0 m 96 [(0, .ref (oa (gw Γ) 95)), (1, .int v1), (3, .int v3)] [] := by
  unfold B_X10_chooses_96 at h
  refine g_iload_n C dX10_chooses_96 2 rfl rfl ?_
  refine g_goto (tgt := 101) C dX10_chooses_97 (by decide) ?_
  refine g_sub [0, 1, 2] rfl ?_
  exact t_X10_chooses_101 N Γ C rc b hE hrec v1 v3 v3 m h
set_option maxRecDepth 100000 in
set_option maxHeartbeats 4000000 in
theorem t_X10_chooses_100 (N : Nat) (Γ : Gc) (C : Cx Γ cX10_chooses 5 RX10 (rmK 3 66 0)) (rc : Int32 → Int32 → Int32 → Mem → Option (Int32 × Mem)) (b : Int32 × Mem) (hE : Ex_X10_chooses_4 Γ 0 b) (hrec : ∀ (v1 : Int32) (v2 : Int32) (v3 : Int32) (m : Mem) (b : Int32 × Mem), rc v1 v2 v3 m = some b → Ex_X10_chooses_4 Γ 0 b → G Γ 5 0 m 4 [(0, .ref (oa (gw Γ) 95)), (1, .int v1), (2, .int v2), (3, .int v3)] []) (v1 : Int32) (v2 : Int32) (v3 : Int32) (m : Mem) (h : B_X10_chooses_100 N rc v1 v2 v3 m = some b) : G Γ 5 0 m 100 [(0, .ref (oa (gw Γ) 95)), (1, .int v1), (2, .int v2), (3, .int v3)] [] := by
  unfold B_X10_chooses_100 at h
  refine g_iload_n C dX10_chooses_100 2 rfl rfl ?_
  refine g_sub [0, 1, 3] rfl ?_
  exact t_X10_chooses_101 N Γ C rc b hE hrec v1 v3 v2 m h
set_option maxRecDepth 100000 in
set_option maxHeartbeats 4000000 in
theorem t_X10_chooses_71 (N : Nat) (Γ : Gc) (C : Cx Γ cX10_chooses 5 RX10 (rmK 3 66 0)) (rc : Int32 → Int32 → Int32 → Mem → Option (Int32 × Mem)) (b : Int32 × Mem) (hE : Ex_X10_chooses_4 Γ 0 b) (hrec : ∀ (v1 : Int32) (v2 : Int32) (v3 : Int32) (m : Mem) (b : Int32 × Mem), rc v1 v2 v3 m = some b → Ex_X10_chooses_4 Γ 0 b → G Γ 5 0 m 4 [(0, .ref (oa (gw Γ) 95)), (1, .int v1), (2, .int v2), (3, .int v3)] []) (v1 : Int32) (v2 : Int32) (v3 : Int32) (s0 : Int32) (m : Mem) (h : B_X10_chooses_71 N rc v1 v2 v3 s0 m = some b) : G Γ 5 0 m 71 [(0, .ref (oa (gw Γ) 95)), (1, .int v1), (2, .int v2), (3, .int v3)] [.int s0] := by
  unfold B_X10_chooses_71 at h
  refine g_istore (lv' := [(4, .int s0), (0, .ref (oa (gw Γ) 95)), (1, .int v1), (2, .int v2), (3, .int v3)]) C dX10_chooses_71 (by decide) rfl ?_
  refine g_iload C dX10_chooses_73 0 rfl ?_
  refine g_if_gt (tgt := 96) C dX10_chooses_75 (by decide) (fun c_11 => ?_) (fun c_11 => ?_)
  · replace h := it_t c_11 h
    refine g_sub [1, 2, 4] rfl ?_
    exact t_X10_chooses_96 N Γ C rc b hE hrec v1 v3 m h
  · replace h := it_f c_11 h
    refine g_iload C dX10_chooses_78 0 rfl ?_
    refine g_if_ne (tgt := 100) C dX10_chooses_80 (by decide) (fun c_10 => ?_) (fun c_10 => ?_)
    · replace h := it_f c_10 h
      refine g_sub [1, 2, 3, 4] rfl ?_
      exact t_X10_chooses_100 N Γ C rc b hE hrec v1 v2 v3 m h
    · replace h := it_t c_10 h
      refine g_aload_n C dX10_chooses_83 1 rfl rfl ?_
      refine g_iload_n C dX10_chooses_84 4 rfl rfl ?_
      obtain ⟨r_7, m_7, hk_7, h⟩ := b2_some h
      refine g_vI (As := [.int v3]) (a := 95) (ci := 10) C dX10_chooses_85 mf_X10_reviewsBy k_621 rfl (by decide) ⟨by decide, by decide⟩ rfl rfl (Nat.le_of_ble_eq_true rfl) (by decide) rfl (c_X10_reviewsBy N (gl Γ) C.2.2.2.2 (gw Γ) v3 m _ hk_7) ?_
      refine g_aload_n C dX10_chooses_88 1 rfl rfl ?_
      refine g_iload_n C dX10_chooses_89 3 rfl rfl ?_
      obtain ⟨r_8, m_8, hk_8, h⟩ := b2_some h
      refine g_vI (As := [.int v2]) (a := 95) (ci := 10) C dX10_chooses_90 mf_X10_reviewsBy k_621 rfl (by decide) ⟨by decide, by decide⟩ rfl rfl (Nat.le_of_ble_eq_true rfl) (by decide) rfl (c_X10_reviewsBy N (gl Γ) C.2.2.2.2 (gw Γ) v2 m_7 _ hk_8) ?_
      refine g_icmp_ge (tgt := 100) C dX10_chooses_93 (by decide) (fun c_9 => ?_) (fun c_9 => ?_)
      · replace h := it_t c_9 h
        refine g_sub [1, 2, 3, 4] rfl ?_
        exact t_X10_chooses_100 N Γ C rc b hE hrec v1 v2 v3 m_8 h
      · replace h := it_f c_9 h
        refine g_sub [1, 2, 4] rfl ?_
        exact t_X10_chooses_96 N Γ C rc b hE hrec v1 v3 m_8 h
set_option maxRecDepth 100000 in
set_option maxHeartbeats 4000000 in
theorem t_X10_chooses_4 (N : Nat) (Γ : Gc) (C : Cx Γ cX10_chooses 5 RX10 (rmK 3 66 0)) (rc : Int32 → Int32 → Int32 → Mem → Option (Int32 × Mem)) (b : Int32 × Mem) (hE : Ex_X10_chooses_4 Γ 0 b) (hrec : ∀ (v1 : Int32) (v2 : Int32) (v3 : Int32) (m : Mem) (b : Int32 × Mem), rc v1 v2 v3 m = some b → Ex_X10_chooses_4 Γ 0 b → G Γ 5 0 m 4 [(0, .ref (oa (gw Γ) 95)), (1, .int v1), (2, .int v2), (3, .int v3)] []) (v1 : Int32) (v2 : Int32) (v3 : Int32) (m : Mem) (h : T_X10_chooses_4 N rc v1 v2 v3 m = some b) : G Γ 5 0 m 4 [(0, .ref (oa (gw Γ) 95)), (1, .int v1), (2, .int v2), (3, .int v3)] [] := by
  unfold T_X10_chooses_4 at h
  refine g_iload_n C dX10_chooses_4 3 rfl rfl ?_
  refine g_aload_n C dX10_chooses_5 0 rfl rfl ?_
  refine g_getT (b := 96) (ci := 10) (j := 1) C dX10_chooses_6 rfl (by decide) rfl inT_X10 (by decide) k_506 rfl rfl rfl rfl ?_
  refine g_iconst (v := (1 : Int32)) C dX10_chooses_9 (by decide) ?_
  refine g_iald' (j := 1) C dX10_chooses_10 (okA_of rfl rfl (by decide)) (by decide) ?_
  refine g_icmp_ge (tgt := 108) C dX10_chooses_11 (by decide) (fun c_16 => ?_) (fun c_16 => ?_)
  · replace h := it_t c_16 h
    obtain rfl := Option.some.inj h
    refine g_sub [2] rfl ?_
    exact hE _ _ rfl
  · replace h := it_f c_16 h
    refine g_aload_n C dX10_chooses_14 0 rfl rfl ?_
    refine g_iload_n C dX10_chooses_15 3 rfl rfl ?_
    refine g_iload_n C dX10_chooses_16 1 rfl rfl ?_
    obtain ⟨r_1, m_1, hk_1, h⟩ := b2_some h
    refine g_vI (As := [.int v3, .int v1]) (a := 95) (ci := 10) C dX10_chooses_17 mf_X10_fits k_645 rfl (by decide) ⟨by decide, by decide⟩ rfl rfl (Nat.le_of_ble_eq_true rfl) (by decide) rfl (c_X10_fits N (gl Γ) C.2.2.2.2 (gw Γ) v3 v1 m _ hk_1) ?_
    refine g_if_eq (tgt := 102) C dX10_chooses_20 (by decide) (fun c_15 => ?_) (fun c_15 => ?_)
    · replace h := it_t c_15 h
      refine g_iinc (q := 3) (v := v3 + (1 : Int32)) (lv' := [(3, .int (v3 + (1 : Int32))), (0, .ref (oa (gw Γ) 95)), (1, .int v1), (2, .int v2)]) C dX10_chooses_102 rfl rfl (by decide) rfl ?_
      refine g_goto (tgt := 4) C dX10_chooses_105 (by decide) ?_
      refine g_sub [1, 2, 3, 0] rfl ?_
      exact hrec v1 v2 (v3 + (1 : Int32)) m_1 b h hE
    · replace h := it_f c_15 h
      refine g_aload_n C dX10_chooses_23 0 rfl rfl ?_
      refine g_iload_n C dX10_chooses_24 3 rfl rfl ?_
      refine g_iload_n C dX10_chooses_25 1 rfl rfl ?_
      obtain ⟨r_2, m_2, hk_2, h⟩ := b2_some h
      refine g_vI (As := [.int v3, .int v1]) (a := 95) (ci := 10) C dX10_chooses_26 mf_X10_isReview k_594 rfl (by decide) ⟨by decide, by decide⟩ rfl rfl (Nat.le_of_ble_eq_true rfl) (by decide) rfl (c_X10_isReview N (gl Γ) C.2.2.2.2 (gw Γ) v3 v1 m_1 _ hk_2) ?_
      refine g_if_ne (tgt := 102) C dX10_chooses_29 (by decide) (fun c_14 => ?_) (fun c_14 => ?_)
      · replace h := it_f c_14 h
        refine g_iinc (q := 3) (v := v3 + (1 : Int32)) (lv' := [(3, .int (v3 + (1 : Int32))), (0, .ref (oa (gw Γ) 95)), (1, .int v1), (2, .int v2)]) C dX10_chooses_102 rfl rfl (by decide) rfl ?_
        refine g_goto (tgt := 4) C dX10_chooses_105 (by decide) ?_
        refine g_sub [1, 2, 3, 0] rfl ?_
        exact hrec v1 v2 (v3 + (1 : Int32)) m_2 b h hE
      · replace h := it_t c_14 h
        refine g_aload_n C dX10_chooses_32 0 rfl rfl ?_
        refine g_iload_n C dX10_chooses_33 3 rfl rfl ?_
        obtain ⟨r_3, m_3, hk_3, h⟩ := b2_some h
        refine g_vI (As := [.int v3]) (a := 95) (ci := 10) C dX10_chooses_34 mf_X10_reviewsBy k_621 rfl (by decide) ⟨by decide, by decide⟩ rfl rfl (Nat.le_of_ble_eq_true rfl) (by decide) rfl (c_X10_reviewsBy N (gl Γ) C.2.2.2.2 (gw Γ) v3 m_2 _ hk_3) ?_
        refine g_aload_n C dX10_chooses_37 0 rfl rfl ?_
        refine g_iload_n C dX10_chooses_38 3 rfl rfl ?_
        refine g_iconst (v := (2 : Int32)) C dX10_chooses_39 (by decide) ?_
        obtain ⟨r_4, m_4, hk_4, h⟩ := b2_some h
        refine g_vI (As := [.int v3, .int (2 : Int32)]) (a := 95) (ci := 10) C dX10_chooses_40 mf_X10_reviewer k_605 rfl (by decide) ⟨by decide, by decide⟩ rfl rfl (Nat.le_of_ble_eq_true rfl) (by decide) rfl (c_X10_reviewer N (gl Γ) C.2.2.2.2 (gw Γ) v3 (2 : Int32) m_3 _ hk_4) ?_
        refine g_icmp_lt (tgt := 49) C dX10_chooses_43 (by decide) (fun c_13 => ?_) (fun c_13 => ?_)
        · replace h := it_t c_13 h
          refine g_iload_n C dX10_chooses_49 2 rfl rfl ?_
          refine g_iconst (v := (-1 : Int32)) C dX10_chooses_50 (by decide) ?_
          refine g_icmp_ne (tgt := 58) C dX10_chooses_51 (by decide) (fun c_12 => ?_) (fun c_12 => ?_)
          · replace h := it_f c_12 h
            refine g_aload_n C dX10_chooses_58 0 rfl rfl ?_
            refine g_iload_n C dX10_chooses_59 3 rfl rfl ?_
            refine g_iload_n C dX10_chooses_60 1 rfl rfl ?_
            obtain ⟨r_5, m_5, hk_5, h⟩ := b2_some h
            refine g_vI (As := [.int v3, .int v1]) (a := 95) (ci := 10) C dX10_chooses_61 mf_X10_matches k_637 rfl (by decide) ⟨by decide, by decide⟩ rfl rfl (Nat.le_of_ble_eq_true rfl) (by decide) rfl (c_X10_matches N (gl Γ) C.2.2.2.2 (gw Γ) v3 v1 m_4 _ hk_5) ?_
            refine g_aload_n C dX10_chooses_64 0 rfl rfl ?_
            refine g_iload_n C dX10_chooses_65 2 rfl rfl ?_
            refine g_iload_n C dX10_chooses_66 1 rfl rfl ?_
            obtain ⟨r_6, m_6, hk_6, h⟩ := b2_some h
            refine g_vI (As := [.int v2, .int v1]) (a := 95) (ci := 10) C dX10_chooses_67 mf_X10_matches k_637 rfl (by decide) ⟨by decide, by decide⟩ rfl rfl (Nat.le_of_ble_eq_true rfl) (by decide) rfl (c_X10_matches N (gl Γ) C.2.2.2.2 (gw Γ) v2 v1 m_5 _ hk_6) ?_
            refine g_isub C dX10_chooses_70 ?_
            refine g_sub [0, 1, 2, 3] rfl ?_
            exact t_X10_chooses_71 N Γ C rc b hE hrec v1 v2 v3 (r_5 - r_6) m_6 h
          · replace h := it_t c_12 h
            refine g_iconst (v := (1 : Int32)) C dX10_chooses_54 (by decide) ?_
            refine g_goto (tgt := 71) C dX10_chooses_55 (by decide) ?_
            refine g_sub [0, 1, 2, 3] rfl ?_
            exact t_X10_chooses_71 N Γ C rc b hE hrec v1 v2 v3 (1 : Int32) m_4 h
        · replace h := it_f c_13 h
          refine g_goto (tgt := 102) C dX10_chooses_46 (by decide) ?_
          refine g_iinc (q := 3) (v := v3 + (1 : Int32)) (lv' := [(3, .int (v3 + (1 : Int32))), (0, .ref (oa (gw Γ) 95)), (1, .int v1), (2, .int v2)]) C dX10_chooses_102 rfl rfl (by decide) rfl ?_
          refine g_goto (tgt := 4) C dX10_chooses_105 (by decide) ?_
          refine g_sub [1, 2, 3, 0] rfl ?_
          exact hrec v1 v2 (v3 + (1 : Int32)) m_4 b h hE
theorem lt_X10_chooses_4 (N : Nat) (Γ : Gc) (C : Cx Γ cX10_chooses 5 RX10 (rmK 3 66 0)) : ∀ (n : Nat) (v1 : Int32) (v2 : Int32) (v3 : Int32) (m : Mem) (b : Int32 × Mem), L_X10_chooses_4 N n v1 v2 v3 m = some b → Ex_X10_chooses_4 Γ 0 b → G Γ 5 0 m 4 [(0, .ref (oa (gw Γ) 95)), (1, .int v1), (2, .int v2), (3, .int v3)] [] := by
  intro n
  induction n with
  | zero =>
    intro v1 v2 v3 m b h
    have h9 : (none : Option (Int32 × Mem)) = some b := h
    cases h9
  | succ n ih => intro v1 v2 v3 m b h hE; exact t_X10_chooses_4 N Γ C (L_X10_chooses_4 N n) b hE ih v1 v2 v3 m h
set_option maxRecDepth 100000 in
set_option maxHeartbeats 4000000 in
theorem t_X10_chooses (N : Nat) (Γ : Gc) (C : Cx Γ cX10_chooses 5 RX10 (rmK 3 66 0)) (v1 : Int32) (m : Mem) (b : Int32 × Mem) (h : f_X10_chooses N v1 m = some b) (hE : EIn Γ 5 cX10_chooses b) : G Γ 5 0 m 0 [(0, .ref (oa (gw Γ) 95)), (1, .int v1)] [] := by
  unfold f_X10_chooses at h
  refine g_iconst (v := (-1 : Int32)) C dX10_chooses_0 (by decide) ?_
  refine g_istore_n (lv' := [(2, .int (-1 : Int32)), (0, .ref (oa (gw Γ) 95)), (1, .int v1)]) C dX10_chooses_1 rfl (by decide) rfl ?_
  refine g_iconst (v := (0 : Int32)) C dX10_chooses_2 (by decide) ?_
  refine g_istore_n (lv' := [(3, .int (0 : Int32)), (2, .int (-1 : Int32)), (0, .ref (oa (gw Γ) 95)), (1, .int v1)]) C dX10_chooses_3 rfl (by decide) rfl ?_
  obtain ⟨v2_17, m_17, hx, h⟩ := l2_some h
  refine g_sub [2, 3, 1, 0] rfl ?_
  refine lt_X10_chooses_4 N Γ C N v1 (-1 : Int32) (0 : Int32) m _ hx ?_
  intro z2 m9 e9
  cases e9
  refine g_iload_n C dX10_chooses_108 0 rfl rfl ?_
  obtain rfl := Option.some.inj h
  exact hE 109 _ dX10_chooses_109
theorem c_X10_chooses (N : Nat) (l : Launch) (hst : l.stackTraces = false) (w : Om) (v1 : Int32) (m : Mem) (o : Int32 × Mem) (h : f_X10_chooses N v1 m = some o) : KI l yX10_chooses cX10_chooses 5 (some .int) 3 66 w [.ref (oa w 95), .int v1] m o.1 o.2 := KI_of hst (by decide +kernel) RX10 rfl (Nat.le_of_ble_eq_true rfl) (fun Γ hw hl C hE => by
  subst hw; subst hl
  exact t_X10_chooses N Γ C v1 m o h hE)
def Ex_X10_assignAll_47 (Γ : Gc) (cs : Nat) (b : Int32 × Int32 × Int32 × Mem) : Prop := (∀ (y1 : Int32) (y2 : Int32) (y3 : Int32) (m' : Mem), b = (y1, y2, y3, m') → G Γ 6 cs m' 123 [(0, .ref (oa (gw Γ) 95)), (1, .int y1), (2, .int y2), (3, .int y3)] [])
set_option maxRecDepth 100000 in
set_option maxHeartbeats 4000000 in
theorem t_X10_assignAll_89 (N : Nat) (Γ : Gc) (C : Cx Γ cX10_assignAll 6 RX10 (rmK 4 90 0)) (rc : Int32 → Int32 → Int32 → Int32 → Mem → Option (Int32 × Int32 × Int32 × Mem)) (b : Int32 × Int32 × Int32 × Mem) (hE : Ex_X10_assignAll_47 Γ 0 b) (hrec : ∀ (v1 : Int32) (v2 : Int32) (v3 : Int32) (v4 : Int32) (m : Mem) (b : Int32 × Int32 × Int32 × Mem), rc v1 v2 v3 v4 m = some b → Ex_X10_assignAll_47 Γ 0 b → G Γ 6 0 m 47 [(0, .ref (oa (gw Γ) 95)), (1, .int v1), (2, .int v2), (3, .int v3), (4, .int v4)] []) (v1 : Int32) (v2 : Int32) (v3 : Int32) (v4 : Int32) (s0 : Int32) (m : Mem) (h : B_X10_assignAll_89 N rc v1 v2 v3 v4 s0 m = some b) : G Γ 6 0 m 89 [(0, .ref (oa (gw Γ) 95)), (1, .int v1), (2, .int v2), (3, .int v3), (4, .int v4)] [.int s0] := by
  unfold B_X10_assignAll_89 at h
  refine g_istore (lv' := [(5, .int s0), (0, .ref (oa (gw Γ) 95)), (1, .int v1), (2, .int v2), (3, .int v3), (4, .int v4)]) C dX10_assignAll_89 (by decide) rfl ?_
  refine g_iload C dX10_assignAll_91 0 rfl ?_
  refine g_iconst (v := (-1 : Int32)) C dX10_assignAll_93 (by decide) ?_
  refine g_icmp_eq (tgt := 117) C dX10_assignAll_94 (by decide) (fun c_7 => ?_) (fun c_7 => ?_)
  · replace h := it_t c_7 h
    refine g_iinc (q := 5) (v := v4 + (1 : Int32)) (lv' := [(4, .int (v4 + (1 : Int32))), (5, .int s0), (0, .ref (oa (gw Γ) 95)), (1, .int v1), (2, .int v2), (3, .int v3)]) C dX10_assignAll_117 rfl rfl (by decide) rfl ?_
    refine g_goto (tgt := 47) C dX10_assignAll_120 (by decide) ?_
    refine g_sub [2, 3, 4, 5, 0] rfl ?_
    exact hrec v1 v2 v3 (v4 + (1 : Int32)) m b h hE
  · replace h := it_f c_7 h
    refine g_aload_n C dX10_assignAll_97 1 rfl rfl ?_
    refine g_getT (b := 98) (ci := 10) (j := 3) C dX10_assignAll_98 rfl (by decide) rfl inT_X10 (by decide) k_588 rfl rfl rfl rfl ?_
    refine g_bipush (v := (14 : Int32)) C dX10_assignAll_101 (by decide) ?_
    refine g_iload C dX10_assignAll_103 0 rfl ?_
    refine g_iadd C dX10_assignAll_105 ?_
    refine g_dup2 C dX10_assignAll_106 rfl rfl ?_
    obtain ⟨g_5, h⟩ := gd_some h
    refine g_iald C dX10_assignAll_107 (okA_of rfl rfl g_5) ?_
    refine g_iconst (v := (1 : Int32)) C dX10_assignAll_108 (by decide) ?_
    refine g_iload C dX10_assignAll_109 5 rfl ?_
    refine g_ishl C dX10_assignAll_111 ?_
    refine g_ior C dX10_assignAll_112 ?_
    obtain ⟨m_6, e_6, h⟩ := wr_some h
    refine g_iast C dX10_assignAll_113 (okA_of rfl rfl g_5) (G_m e_6 ?_)
    refine g_iinc (q := 3) (v := v2 + (1 : Int32)) (lv' := [(2, .int (v2 + (1 : Int32))), (5, .int s0), (0, .ref (oa (gw Γ) 95)), (1, .int v1), (3, .int v3), (4, .int v4)]) C dX10_assignAll_114 rfl rfl (by decide) rfl ?_
    refine g_iinc (q := 5) (v := v4 + (1 : Int32)) (lv' := [(4, .int (v4 + (1 : Int32))), (2, .int (v2 + (1 : Int32))), (5, .int s0), (0, .ref (oa (gw Γ) 95)), (1, .int v1), (3, .int v3)]) C dX10_assignAll_117 rfl rfl (by decide) rfl ?_
    refine g_goto (tgt := 47) C dX10_assignAll_120 (by decide) ?_
    refine g_sub [3, 4, 1, 5, 0] rfl ?_
    exact hrec v1 (v2 + (1 : Int32)) v3 (v4 + (1 : Int32)) m_6 b h hE
set_option maxRecDepth 100000 in
set_option maxHeartbeats 4000000 in
theorem t_X10_assignAll_88 (N : Nat) (Γ : Gc) (C : Cx Γ cX10_assignAll 6 RX10 (rmK 4 90 0)) (rc : Int32 → Int32 → Int32 → Int32 → Mem → Option (Int32 × Int32 × Int32 × Mem)) (b : Int32 × Int32 × Int32 × Mem) (hE : Ex_X10_assignAll_47 Γ 0 b) (hrec : ∀ (v1 : Int32) (v2 : Int32) (v3 : Int32) (v4 : Int32) (m : Mem) (b : Int32 × Int32 × Int32 × Mem), rc v1 v2 v3 v4 m = some b → Ex_X10_assignAll_47 Γ 0 b → G Γ 6 0 m 47 [(0, .ref (oa (gw Γ) 95)), (1, .int v1), (2, .int v2), (3, .int v3), (4, .int v4)] []) (v1 : Int32) (v2 : Int32) (v3 : Int32) (v4 : Int32) (m : Mem) (h : B_X10_assignAll_88 N rc v1 v2 v3 v4 m = some b) : G Γ 6 0 m 88 [(0, .ref (oa (gw Γ) 95)), (1, .int v1), (2, .int v2), (3, .int v3), (4, .int v4)] [] := by
  unfold B_X10_assignAll_88 at h
  refine g_iconst (v := (-1 : Int32)) C dX10_assignAll_88 (by decide) ?_
  refine g_sub [0, 1, 2, 3, 4] rfl ?_
  exact t_X10_assignAll_89 N Γ C rc b hE hrec v1 v2 v3 v4 (-1 : Int32) m h
set_option maxRecDepth 100000 in
set_option maxHeartbeats 4000000 in
theorem t_X10_assignAll_47 (N : Nat) (Γ : Gc) (C : Cx Γ cX10_assignAll 6 RX10 (rmK 4 90 0)) (rc : Int32 → Int32 → Int32 → Int32 → Mem → Option (Int32 × Int32 × Int32 × Mem)) (b : Int32 × Int32 × Int32 × Mem) (hE : Ex_X10_assignAll_47 Γ 0 b) (hrec : ∀ (v1 : Int32) (v2 : Int32) (v3 : Int32) (v4 : Int32) (m : Mem) (b : Int32 × Int32 × Int32 × Mem), rc v1 v2 v3 v4 m = some b → Ex_X10_assignAll_47 Γ 0 b → G Γ 6 0 m 47 [(0, .ref (oa (gw Γ) 95)), (1, .int v1), (2, .int v2), (3, .int v3), (4, .int v4)] []) (v1 : Int32) (v2 : Int32) (v3 : Int32) (v4 : Int32) (m : Mem) (h : T_X10_assignAll_47 N rc v1 v2 v3 v4 m = some b) : G Γ 6 0 m 47 [(0, .ref (oa (gw Γ) 95)), (1, .int v1), (2, .int v2), (3, .int v3), (4, .int v4)] [] := by
  unfold T_X10_assignAll_47 at h
  refine g_iload C dX10_assignAll_47 4 rfl ?_
  refine g_aload_n C dX10_assignAll_49 0 rfl rfl ?_
  refine g_getT (b := 96) (ci := 10) (j := 1) C dX10_assignAll_50 rfl (by decide) rfl inT_X10 (by decide) k_506 rfl rfl rfl rfl ?_
  refine g_iconst (v := (2 : Int32)) C dX10_assignAll_53 (by decide) ?_
  refine g_iald' (j := 2) C dX10_assignAll_54 (okA_of rfl rfl (by decide)) (by decide) ?_
  refine g_icmp_ge (tgt := 123) C dX10_assignAll_55 (by decide) (fun c_12 => ?_) (fun c_12 => ?_)
  · replace h := it_t c_12 h
    obtain rfl := Option.some.inj h
    refine g_sub [0, 1, 2, 3] rfl ?_
    exact hE _ _ _ _ rfl
  · replace h := it_f c_12 h
    refine g_aload_n C dX10_assignAll_58 0 rfl rfl ?_
    refine g_iload C dX10_assignAll_59 4 rfl ?_
    refine g_iconst (v := (0 : Int32)) C dX10_assignAll_61 (by decide) ?_
    obtain ⟨r_4, m_4, hk_4, h⟩ := b2_some h
    refine g_vI (As := [.int v4, .int (0 : Int32)]) (a := 95) (ci := 10) C dX10_assignAll_62 mf_X10_proposal k_609 rfl (by decide) ⟨by decide, by decide⟩ rfl rfl (Nat.le_of_ble_eq_true rfl) (by decide) rfl (c_X10_proposal N (gl Γ) C.2.2.2.2 (gw Γ) v4 (0 : Int32) m _ hk_4) ?_
    refine g_iload_n C dX10_assignAll_65 1 rfl rfl ?_
    refine g_icmp_ne (tgt := 88) C dX10_assignAll_66 (by decide) (fun c_11 => ?_) (fun c_11 => ?_)
    · replace h := it_f c_11 h
      refine g_sub [0, 1, 2, 3, 4] rfl ?_
      exact t_X10_assignAll_88 N Γ C rc b hE hrec v1 v2 v3 v4 m_4 h
    · replace h := it_t c_11 h
      refine g_aload_n C dX10_assignAll_69 0 rfl rfl ?_
      refine g_iload C dX10_assignAll_70 4 rfl ?_
      obtain ⟨r_8, m_8, hk_8, h⟩ := b2_some h
      refine g_vI (As := [.int v4]) (a := 95) (ci := 10) C dX10_assignAll_72 mf_X10_reviewsOf k_649 rfl (by decide) ⟨by decide, by decide⟩ rfl rfl (Nat.le_of_ble_eq_true rfl) (by decide) rfl (c_X10_reviewsOf N (gl Γ) C.2.2.2.2 (gw Γ) v4 m_4 _ hk_8) ?_
      refine g_iload_n C dX10_assignAll_75 3 rfl rfl ?_
      refine g_icmp_ge (tgt := 88) C dX10_assignAll_76 (by decide) (fun c_10 => ?_) (fun c_10 => ?_)
      · replace h := it_t c_10 h
        refine g_sub [0, 1, 2, 3, 4] rfl ?_
        exact t_X10_assignAll_88 N Γ C rc b hE hrec v1 v2 v3 v4 m_8 h
      · replace h := it_f c_10 h
        refine g_aload_n C dX10_assignAll_79 0 rfl rfl ?_
        refine g_iload C dX10_assignAll_80 4 rfl ?_
        obtain ⟨r_9, m_9, hk_9, h⟩ := b2_some h
        refine g_vI (As := [.int v4]) (a := 95) (ci := 10) C dX10_assignAll_82 mf_X10_chooses k_664 rfl (by decide) ⟨by decide, by decide⟩ rfl rfl (Nat.le_of_ble_eq_true rfl) (by decide) rfl (c_X10_chooses N (gl Γ) C.2.2.2.2 (gw Γ) v4 m_8 _ hk_9) ?_
        refine g_goto (tgt := 89) C dX10_assignAll_85 (by decide) ?_
        refine g_sub [0, 1, 2, 3, 4] rfl ?_
        exact t_X10_assignAll_89 N Γ C rc b hE hrec v1 v2 v3 v4 r_9 m_9 h
theorem lt_X10_assignAll_47 (N : Nat) (Γ : Gc) (C : Cx Γ cX10_assignAll 6 RX10 (rmK 4 90 0)) : ∀ (n : Nat) (v1 : Int32) (v2 : Int32) (v3 : Int32) (v4 : Int32) (m : Mem) (b : Int32 × Int32 × Int32 × Mem), L_X10_assignAll_47 N n v1 v2 v3 v4 m = some b → Ex_X10_assignAll_47 Γ 0 b → G Γ 6 0 m 47 [(0, .ref (oa (gw Γ) 95)), (1, .int v1), (2, .int v2), (3, .int v3), (4, .int v4)] [] := by
  intro n
  induction n with
  | zero =>
    intro v1 v2 v3 v4 m b h
    have h9 : (none : Option (Int32 × Int32 × Int32 × Mem)) = some b := h
    cases h9
  | succ n ih => intro v1 v2 v3 v4 m b h hE; exact t_X10_assignAll_47 N Γ C (L_X10_assignAll_47 N n) b hE ih v1 v2 v3 v4 m h
def Ex_X10_assignAll_34 (Γ : Gc) (cs : Nat) (b : Int32 × Mem) : Prop := (∀ (y2 : Int32) (m' : Mem), b = (y2, m') → G Γ 6 cs m' 129 [(2, .int y2)] [])
set_option maxRecDepth 100000 in
set_option maxHeartbeats 4000000 in
theorem t_X10_assignAll_34 (N : Nat) (Γ : Gc) (C : Cx Γ cX10_assignAll 6 RX10 (rmK 4 90 0)) (rc : Int32 → Int32 → Int32 → Mem → Option (Int32 × Mem)) (b : Int32 × Mem) (hE : Ex_X10_assignAll_34 Γ 0 b) (hrec : ∀ (v1 : Int32) (v2 : Int32) (v3 : Int32) (m : Mem) (b : Int32 × Mem), rc v1 v2 v3 m = some b → Ex_X10_assignAll_34 Γ 0 b → G Γ 6 0 m 34 [(0, .ref (oa (gw Γ) 95)), (1, .int v1), (2, .int v2), (3, .int v3)] []) (v1 : Int32) (v2 : Int32) (v3 : Int32) (m : Mem) (h : T_X10_assignAll_34 N rc v1 v2 v3 m = some b) : G Γ 6 0 m 34 [(0, .ref (oa (gw Γ) 95)), (1, .int v1), (2, .int v2), (3, .int v3)] [] := by
  unfold T_X10_assignAll_34 at h
  refine g_iload_n C dX10_assignAll_34 3 rfl rfl ?_
  refine g_aload_n C dX10_assignAll_35 0 rfl rfl ?_
  refine g_getT (b := 96) (ci := 10) (j := 1) C dX10_assignAll_36 rfl (by decide) rfl inT_X10 (by decide) k_506 rfl rfl rfl rfl ?_
  refine g_iconst (v := (3 : Int32)) C dX10_assignAll_39 (by decide) ?_
  refine g_iald' (j := 3) C dX10_assignAll_40 (okA_of rfl rfl (by decide)) (by decide) ?_
  refine g_icmp_gt (tgt := 129) C dX10_assignAll_41 (by decide) (fun c_14 => ?_) (fun c_14 => ?_)
  · replace h := it_t c_14 h
    obtain rfl := Option.some.inj h
    refine g_sub [2] rfl ?_
    exact hE _ _ rfl
  · replace h := it_f c_14 h
    refine g_iconst (v := (0 : Int32)) C dX10_assignAll_44 (by decide) ?_
    refine g_istore (lv' := [(4, .int (0 : Int32)), (0, .ref (oa (gw Γ) 95)), (1, .int v1), (2, .int v2), (3, .int v3)]) C dX10_assignAll_45 (by decide) rfl ?_
    obtain ⟨v1_13, v2_13, v3_13, m_13, hx, h⟩ := l4_some h
    refine g_sub [1, 2, 3, 4, 0] rfl ?_
    refine lt_X10_assignAll_47 N Γ C N v1 v2 v3 (0 : Int32) m _ hx ?_
    intro z1 z2 z3 m9 e9
    cases e9
    refine g_iinc (q := 3) (v := v3_13 + (1 : Int32)) (lv' := [(3, .int (v3_13 + (1 : Int32))), (0, .ref (oa (gw Γ) 95)), (1, .int v1_13), (2, .int v2_13)]) C dX10_assignAll_123 rfl rfl (by decide) rfl ?_
    refine g_goto (tgt := 34) C dX10_assignAll_126 (by decide) ?_
    refine g_sub [1, 2, 3, 0] rfl ?_
    exact hrec v1_13 v2_13 (v3_13 + (1 : Int32)) m_13 b h hE
theorem lt_X10_assignAll_34 (N : Nat) (Γ : Gc) (C : Cx Γ cX10_assignAll 6 RX10 (rmK 4 90 0)) : ∀ (n : Nat) (v1 : Int32) (v2 : Int32) (v3 : Int32) (m : Mem) (b : Int32 × Mem), L_X10_assignAll_34 N n v1 v2 v3 m = some b → Ex_X10_assignAll_34 Γ 0 b → G Γ 6 0 m 34 [(0, .ref (oa (gw Γ) 95)), (1, .int v1), (2, .int v2), (3, .int v3)] [] := by
  intro n
  induction n with
  | zero =>
    intro v1 v2 v3 m b h
    have h9 : (none : Option (Int32 × Mem)) = some b := h
    cases h9
  | succ n ih => intro v1 v2 v3 m b h hE; exact t_X10_assignAll_34 N Γ C (L_X10_assignAll_34 N n) b hE ih v1 v2 v3 m h
set_option maxRecDepth 100000 in
set_option maxHeartbeats 4000000 in
theorem t_X10_assignAll_14 (N : Nat) (Γ : Gc) (C : Cx Γ cX10_assignAll 6 RX10 (rmK 4 90 0)) (b : Int32 × Mem) (hE : EIn Γ 6 cX10_assignAll b) (v1 : Int32) (s0 : Int32) (m : Mem) (h : B_X10_assignAll_14 N v1 s0 m = some b) : G Γ 6 0 m 14 [(0, .ref (oa (gw Γ) 95)), (1, .int v1)] [.int s0, .ref (oa (gw Γ) 95)] := by
  unfold B_X10_assignAll_14 at h
  obtain ⟨m_2, e_2, h⟩ := wr_some h
  refine g_putI (ci := 10) (j := 0) C dX10_assignAll_14 rfl (by decide) rfl inT_X10 (by decide) k_505 tyX10 tyX10_ok nmX10 rfl rfl rfl rfl rfl (G_m e_2 ?_)
  refine g_aload_n C dX10_assignAll_17 0 rfl rfl ?_
  refine g_getI (ci := 10) (j := 0) C dX10_assignAll_18 rfl (by decide) rfl inT_X10 (by decide) k_505 rfl rfl ?_
  refine g_if_le (tgt := 26) C dX10_assignAll_21 (by decide) (fun c_16 => ?_) (fun c_16 => ?_)
  · replace h := it_t c_16 h
    refine g_aload_n C dX10_assignAll_26 0 rfl rfl ?_
    obtain ⟨m_3, hk_3, h⟩ := b1_some h
    refine g_vV (As := []) (a := 95) (ci := 10) C dX10_assignAll_27 mf_X10_keeps k_641 rfl (by decide) ⟨by decide, by decide⟩ rfl rfl (Nat.le_of_ble_eq_true rfl) (by decide) rfl (c_X10_keeps N (gl Γ) C.2.2.2.2 (gw Γ)  m_2 _ hk_3) ?_
    refine g_iconst (v := (0 : Int32)) C dX10_assignAll_30 (by decide) ?_
    refine g_istore_n (lv' := [(2, .int (0 : Int32)), (0, .ref (oa (gw Γ) 95)), (1, .int v1)]) C dX10_assignAll_31 rfl (by decide) rfl ?_
    refine g_iconst (v := (1 : Int32)) C dX10_assignAll_32 (by decide) ?_
    refine g_istore_n (lv' := [(3, .int (1 : Int32)), (2, .int (0 : Int32)), (0, .ref (oa (gw Γ) 95)), (1, .int v1)]) C dX10_assignAll_33 rfl (by decide) rfl ?_
    obtain ⟨v2_15, m_15, hx, h⟩ := l2_some h
    refine g_sub [2, 3, 1, 0] rfl ?_
    refine lt_X10_assignAll_34 N Γ C N v1 (0 : Int32) (1 : Int32) m_3 _ hx ?_
    intro z2 m9 e9
    cases e9
    refine g_iload_n C dX10_assignAll_129 0 rfl rfl ?_
    obtain rfl := Option.some.inj h
    exact hE 130 _ dX10_assignAll_130
  · replace h := it_f c_16 h
    refine g_iconst (v := (0 : Int32)) C dX10_assignAll_24 (by decide) ?_
    obtain rfl := Option.some.inj h
    exact hE 25 _ dX10_assignAll_25
set_option maxRecDepth 100000 in
set_option maxHeartbeats 4000000 in
theorem t_X10_assignAll (N : Nat) (Γ : Gc) (C : Cx Γ cX10_assignAll 6 RX10 (rmK 4 90 0)) (v1 : Int32) (m : Mem) (b : Int32 × Mem) (h : f_X10_assignAll N v1 m = some b) (hE : EIn Γ 6 cX10_assignAll b) : G Γ 6 0 m 0 [(0, .ref (oa (gw Γ) 95)), (1, .int v1)] [] := by
  unfold f_X10_assignAll at h
  refine g_aload_n C dX10_assignAll_0 0 rfl rfl ?_
  refine g_aload_n C dX10_assignAll_1 0 rfl rfl ?_
  refine g_iload_n C dX10_assignAll_2 1 rfl rfl ?_
  obtain ⟨r_1, m_1, hk_1, h⟩ := b2_some h
  refine g_vI (As := [.int v1]) (a := 95) (ci := 10) C dX10_assignAll_3 mf_X10_isPanel k_660 rfl (by decide) ⟨by decide, by decide⟩ rfl rfl (Nat.le_of_ble_eq_true rfl) (by decide) rfl (c_X10_isPanel N (gl Γ) C.2.2.2.2 (gw Γ) v1 m _ hk_1) ?_
  refine g_if_eq (tgt := 13) C dX10_assignAll_6 (by decide) (fun c_17 => ?_) (fun c_17 => ?_)
  · replace h := it_t c_17 h
    refine g_iconst (v := (1 : Int32)) C dX10_assignAll_13 (by decide) ?_
    refine g_sub [0, 1] rfl ?_
    exact t_X10_assignAll_14 N Γ C b hE v1 (1 : Int32) m_1 h
  · replace h := it_f c_17 h
    refine g_iconst (v := (0 : Int32)) C dX10_assignAll_9 (by decide) ?_
    refine g_goto (tgt := 14) C dX10_assignAll_10 (by decide) ?_
    refine g_sub [0, 1] rfl ?_
    exact t_X10_assignAll_14 N Γ C b hE v1 (0 : Int32) m_1 h
theorem c_X10_assignAll (N : Nat) (l : Launch) (hst : l.stackTraces = false) (w : Om) (v1 : Int32) (m : Mem) (o : Int32 × Mem) (h : f_X10_assignAll N v1 m = some o) : KI l yX10_assignAll cX10_assignAll 6 (some .int) 4 90 w [.ref (oa w 95), .int v1] m o.1 o.2 := KI_of hst (by decide +kernel) RX10 rfl (Nat.le_of_ble_eq_true rfl) (fun Γ hw hl C hE => by
  subst hw; subst hl
  exact t_X10_assignAll N Γ C v1 m o h hE)
def Ex_X10_reviewerOf_37 (Γ : Gc) (cs : Nat) (b : (Mem) ⊕ (Int32 × Mem)) : Prop := (∀  (m' : Mem), b = .inl (m') → G Γ 5 cs m' 85 [] []) ∧ (∀ (y4 : Int32) (m' : Mem), b = .inr ((y4, m')) → G Γ 5 cs m' 73 [(4, .int y4)] [])
set_option maxRecDepth 100000 in
set_option maxHeartbeats 4000000 in
theorem t_X10_reviewerOf_37 (N : Nat) (Γ : Gc) (C : Cx Γ cX10_reviewerOf 5 RX10 (rmK 3 66 0)) (rc : Int32 → Int32 → Int32 → Int32 → Mem → Option ((Mem) ⊕ (Int32 × Mem))) (b : (Mem) ⊕ (Int32 × Mem)) (hE : Ex_X10_reviewerOf_37 Γ 0 b) (hrec : ∀ (v1 : Int32) (v2 : Int32) (v3 : Int32) (v4 : Int32) (m : Mem) (b : (Mem) ⊕ (Int32 × Mem)), rc v1 v2 v3 v4 m = some b → Ex_X10_reviewerOf_37 Γ 0 b → G Γ 5 0 m 37 [(0, .ref (oa (gw Γ) 95)), (1, .int v1), (2, .int v2), (3, .int v3), (4, .int v4)] []) (v1 : Int32) (v2 : Int32) (v3 : Int32) (v4 : Int32) (m : Mem) (h : T_X10_reviewerOf_37 N rc v1 v2 v3 v4 m = some b) : G Γ 5 0 m 37 [(0, .ref (oa (gw Γ) 95)), (1, .int v1), (2, .int v2), (3, .int v3), (4, .int v4)] [] := by
  unfold T_X10_reviewerOf_37 at h
  refine g_iload C dX10_reviewerOf_37 4 rfl ?_
  refine g_aload_n C dX10_reviewerOf_39 0 rfl rfl ?_
  refine g_getT (b := 96) (ci := 10) (j := 1) C dX10_reviewerOf_40 rfl (by decide) rfl inT_X10 (by decide) k_506 rfl rfl rfl rfl ?_
  refine g_iconst (v := (1 : Int32)) C dX10_reviewerOf_43 (by decide) ?_
  refine g_iald' (j := 1) C dX10_reviewerOf_44 (okA_of rfl rfl (by decide)) (by decide) ?_
  refine g_icmp_ge (tgt := 85) C dX10_reviewerOf_45 (by decide) (fun c_7 => ?_) (fun c_7 => ?_)
  · replace h := it_t c_7 h
    obtain rfl := Option.some.inj h
    refine g_sub [] rfl ?_
    exact hE.1 _ rfl
  · replace h := it_f c_7 h
    refine g_aload_n C dX10_reviewerOf_48 0 rfl rfl ?_
    refine g_getI (ci := 10) (j := 0) C dX10_reviewerOf_49 rfl (by decide) rfl inT_X10 (by decide) k_505 rfl rfl ?_
    refine g_if_ne (tgt := 85) C dX10_reviewerOf_52 (by decide) (fun c_6 => ?_) (fun c_6 => ?_)
    · replace h := it_f c_6 h
      obtain rfl := Option.some.inj h
      refine g_sub [] rfl ?_
      exact hE.1 _ rfl
    · replace h := it_t c_6 h
      refine g_aload_n C dX10_reviewerOf_55 0 rfl rfl ?_
      refine g_iload C dX10_reviewerOf_56 4 rfl ?_
      refine g_iload_n C dX10_reviewerOf_58 1 rfl rfl ?_
      obtain ⟨r_3, m_3, hk_3, h⟩ := b2_some h
      refine g_vI (As := [.int v4, .int v1]) (a := 95) (ci := 10) C dX10_reviewerOf_59 mf_X10_isReview k_594 rfl (by decide) ⟨by decide, by decide⟩ rfl rfl (Nat.le_of_ble_eq_true rfl) (by decide) rfl (c_X10_isReview N (gl Γ) C.2.2.2.2 (gw Γ) v4 v1 m _ hk_3) ?_
      refine g_if_ne (tgt := 68) C dX10_reviewerOf_62 (by decide) (fun c_5 => ?_) (fun c_5 => ?_)
      · replace h := it_f c_5 h
        refine g_iload_n C dX10_reviewerOf_68 3 rfl rfl ?_
        refine g_iload_n C dX10_reviewerOf_69 2 rfl rfl ?_
        refine g_icmp_ne (tgt := 76) C dX10_reviewerOf_70 (by decide) (fun c_4 => ?_) (fun c_4 => ?_)
        · replace h := it_f c_4 h
          refine g_iinc (q := 3) (v := v3 + (1 : Int32)) (lv' := [(3, .int (v3 + (1 : Int32))), (0, .ref (oa (gw Γ) 95)), (1, .int v1), (2, .int v2), (4, .int v4)]) C dX10_reviewerOf_76 rfl rfl (by decide) rfl ?_
          refine g_iinc (q := 4) (v := v4 + (1 : Int32)) (lv' := [(4, .int (v4 + (1 : Int32))), (3, .int (v3 + (1 : Int32))), (0, .ref (oa (gw Γ) 95)), (1, .int v1), (2, .int v2)]) C dX10_reviewerOf_79 rfl rfl (by decide) rfl ?_
          refine g_goto (tgt := 37) C dX10_reviewerOf_82 (by decide) ?_
          refine g_sub [2, 3, 4, 1, 0] rfl ?_
          exact hrec v1 v2 (v3 + (1 : Int32)) (v4 + (1 : Int32)) m_3 b h hE
        · replace h := it_t c_4 h
          obtain rfl := Option.some.inj h
          refine g_sub [4] rfl ?_
          exact hE.2 _ _ rfl
      · replace h := it_t c_5 h
        refine g_goto (tgt := 79) C dX10_reviewerOf_65 (by decide) ?_
        refine g_iinc (q := 4) (v := v4 + (1 : Int32)) (lv' := [(4, .int (v4 + (1 : Int32))), (0, .ref (oa (gw Γ) 95)), (1, .int v1), (2, .int v2), (3, .int v3)]) C dX10_reviewerOf_79 rfl rfl (by decide) rfl ?_
        refine g_goto (tgt := 37) C dX10_reviewerOf_82 (by decide) ?_
        refine g_sub [1, 2, 3, 4, 0] rfl ?_
        exact hrec v1 v2 v3 (v4 + (1 : Int32)) m_3 b h hE
theorem lt_X10_reviewerOf_37 (N : Nat) (Γ : Gc) (C : Cx Γ cX10_reviewerOf 5 RX10 (rmK 3 66 0)) : ∀ (n : Nat) (v1 : Int32) (v2 : Int32) (v3 : Int32) (v4 : Int32) (m : Mem) (b : (Mem) ⊕ (Int32 × Mem)), L_X10_reviewerOf_37 N n v1 v2 v3 v4 m = some b → Ex_X10_reviewerOf_37 Γ 0 b → G Γ 5 0 m 37 [(0, .ref (oa (gw Γ) 95)), (1, .int v1), (2, .int v2), (3, .int v3), (4, .int v4)] [] := by
  intro n
  induction n with
  | zero =>
    intro v1 v2 v3 v4 m b h
    have h9 : (none : Option ((Mem) ⊕ (Int32 × Mem))) = some b := h
    cases h9
  | succ n ih => intro v1 v2 v3 v4 m b h hE; exact t_X10_reviewerOf_37 N Γ C (L_X10_reviewerOf_37 N n) b hE ih v1 v2 v3 v4 m h
set_option maxRecDepth 100000 in
set_option maxHeartbeats 4000000 in
theorem t_X10_reviewerOf_29 (N : Nat) (Γ : Gc) (C : Cx Γ cX10_reviewerOf 5 RX10 (rmK 3 66 0)) (b : Int32 × Mem) (hE : EIn Γ 5 cX10_reviewerOf b) (v1 : Int32) (v2 : Int32) (s0 : Int32) (m : Mem) (h : B_X10_reviewerOf_29 N v1 v2 s0 m = some b) : G Γ 5 0 m 29 [(0, .ref (oa (gw Γ) 95)), (1, .int v1), (2, .int v2)] [.int s0, .ref (oa (gw Γ) 95)] := by
  unfold B_X10_reviewerOf_29 at h
  obtain ⟨m_2, e_2, h⟩ := wr_some h
  refine g_putI (ci := 10) (j := 0) C dX10_reviewerOf_29 rfl (by decide) rfl inT_X10 (by decide) k_505 tyX10 tyX10_ok nmX10 rfl rfl rfl rfl rfl (G_m e_2 ?_)
  refine g_iconst (v := (0 : Int32)) C dX10_reviewerOf_32 (by decide) ?_
  refine g_istore_n (lv' := [(3, .int (0 : Int32)), (0, .ref (oa (gw Γ) 95)), (1, .int v1), (2, .int v2)]) C dX10_reviewerOf_33 rfl (by decide) rfl ?_
  refine g_iconst (v := (0 : Int32)) C dX10_reviewerOf_34 (by decide) ?_
  refine g_istore (lv' := [(4, .int (0 : Int32)), (3, .int (0 : Int32)), (0, .ref (oa (gw Γ) 95)), (1, .int v1), (2, .int v2)]) C dX10_reviewerOf_35 (by decide) rfl ?_
  obtain ⟨x9, hx, h⟩ := ob_some h
  refine g_sub [2, 3, 4, 1, 0] rfl ?_
  refine lt_X10_reviewerOf_37 N Γ C N v1 v2 (0 : Int32) (0 : Int32) m_2 _ hx ?_
  refine ⟨?_, ?_⟩
  · intro  m_8 e9
    subst e9
    replace h : (some ((0 : Int32), m_8)) = some b := h
    refine g_iconst (v := (0 : Int32)) C dX10_reviewerOf_85 (by decide) ?_
    obtain rfl := Option.some.inj h
    exact hE 86 _ dX10_reviewerOf_86
  · intro v4_8 m_8 e9
    subst e9
    replace h : (some (v4_8, m_8)) = some b := h
    refine g_iload C dX10_reviewerOf_73 0 rfl ?_
    obtain rfl := Option.some.inj h
    exact hE 75 _ dX10_reviewerOf_75
set_option maxRecDepth 100000 in
set_option maxHeartbeats 4000000 in
theorem t_X10_reviewerOf_28 (N : Nat) (Γ : Gc) (C : Cx Γ cX10_reviewerOf 5 RX10 (rmK 3 66 0)) (b : Int32 × Mem) (hE : EIn Γ 5 cX10_reviewerOf b) (v1 : Int32) (v2 : Int32) (m : Mem) (h : B_X10_reviewerOf_28 N v1 v2 m = some b) : G Γ 5 0 m 28 [(0, .ref (oa (gw Γ) 95)), (1, .int v1), (2, .int v2)] [.ref (oa (gw Γ) 95)] := by
  unfold B_X10_reviewerOf_28 at h
  refine g_iconst (v := (1 : Int32)) C dX10_reviewerOf_28 (by decide) ?_
  refine g_sub [0, 1, 2] rfl ?_
  exact t_X10_reviewerOf_29 N Γ C b hE v1 v2 (1 : Int32) m h
set_option maxRecDepth 100000 in
set_option maxHeartbeats 4000000 in
theorem t_X10_reviewerOf (N : Nat) (Γ : Gc) (C : Cx Γ cX10_reviewerOf 5 RX10 (rmK 3 66 0)) (v1 : Int32) (v2 : Int32) (m : Mem) (b : Int32 × Mem) (h : f_X10_reviewerOf N v1 v2 m = some b) (hE : EIn Γ 5 cX10_reviewerOf b) : G Γ 5 0 m 0 [(0, .ref (oa (gw Γ) 95)), (1, .int v1), (2, .int v2)] [] := by
  unfold f_X10_reviewerOf at h
  refine g_aload_n C dX10_reviewerOf_0 0 rfl rfl ?_
  refine g_aload_n C dX10_reviewerOf_1 0 rfl rfl ?_
  refine g_iload_n C dX10_reviewerOf_2 1 rfl rfl ?_
  obtain ⟨r_1, m_1, hk_1, h⟩ := b2_some h
  refine g_vI (As := [.int v1]) (a := 95) (ci := 10) C dX10_reviewerOf_3 mf_X10_isProposal k_629 rfl (by decide) ⟨by decide, by decide⟩ rfl rfl (Nat.le_of_ble_eq_true rfl) (by decide) rfl (c_X10_isProposal N (gl Γ) C.2.2.2.2 (gw Γ) v1 m _ hk_1) ?_
  refine g_if_eq (tgt := 28) C dX10_reviewerOf_6 (by decide) (fun c_12 => ?_) (fun c_12 => ?_)
  · replace h := it_t c_12 h
    refine g_sub [0, 1, 2] rfl ?_
    exact t_X10_reviewerOf_28 N Γ C b hE v1 v2 m_1 h
  · replace h := it_f c_12 h
    refine g_iload_n C dX10_reviewerOf_9 2 rfl rfl ?_
    refine g_iconst (v := (0 : Int32)) C dX10_reviewerOf_10 (by decide) ?_
    refine g_aload_n C dX10_reviewerOf_11 0 rfl rfl ?_
    refine g_iload_n C dX10_reviewerOf_12 1 rfl rfl ?_
    obtain ⟨r_9, m_9, hk_9, h⟩ := b2_some h
    refine g_vI (As := [.int v1]) (a := 95) (ci := 10) C dX10_reviewerOf_13 mf_X10_reviewsOf k_649 rfl (by decide) ⟨by decide, by decide⟩ rfl rfl (Nat.le_of_ble_eq_true rfl) (by decide) rfl (c_X10_reviewsOf N (gl Γ) C.2.2.2.2 (gw Γ) v1 m_1 _ hk_9) ?_
    refine g_iconst (v := (1 : Int32)) C dX10_reviewerOf_16 (by decide) ?_
    refine g_isub C dX10_reviewerOf_17 ?_
    obtain ⟨r_10, m_10, hk_10, h⟩ := b2_some h
    refine g_sI (As := [.int v2, .int (0 : Int32), .int (r_9 - (1 : Int32))]) C dX10_reviewerOf_18 mf_X10_in k_507 ⟨by decide, by decide⟩ rfl rfl (Nat.le_of_ble_eq_true rfl) (by decide) (c_X10_in N (gl Γ) C.2.2.2.2 (gw Γ) v2 (0 : Int32) (r_9 - (1 : Int32)) m_9 _ hk_10) ?_
    refine g_if_eq (tgt := 28) C dX10_reviewerOf_21 (by decide) (fun c_11 => ?_) (fun c_11 => ?_)
    · replace h := it_t c_11 h
      refine g_sub [0, 1, 2] rfl ?_
      exact t_X10_reviewerOf_28 N Γ C b hE v1 v2 m_10 h
    · replace h := it_f c_11 h
      refine g_iconst (v := (0 : Int32)) C dX10_reviewerOf_24 (by decide) ?_
      refine g_goto (tgt := 29) C dX10_reviewerOf_25 (by decide) ?_
      refine g_sub [0, 1, 2] rfl ?_
      exact t_X10_reviewerOf_29 N Γ C b hE v1 v2 (0 : Int32) m_10 h
theorem c_X10_reviewerOf (N : Nat) (l : Launch) (hst : l.stackTraces = false) (w : Om) (v1 : Int32) (v2 : Int32) (m : Mem) (o : Int32 × Mem) (h : f_X10_reviewerOf N v1 v2 m = some o) : KI l yX10_reviewerOf cX10_reviewerOf 5 (some .int) 3 66 w [.ref (oa w 95), .int v1, .int v2] m o.1 o.2 := KI_of hst (by decide +kernel) RX10 rfl (Nat.le_of_ble_eq_true rfl) (fun Γ hw hl C hE => by
  subst hw; subst hl
  exact t_X10_reviewerOf N Γ C v1 v2 m o h hE)
set_option maxRecDepth 100000 in
set_option maxHeartbeats 4000000 in
theorem t_X10_loadOf_14 (N : Nat) (Γ : Gc) (C : Cx Γ cX10_loadOf 2 RX10 (rmK 2 43 0)) (b : Int32 × Mem) (hE : EIn Γ 2 cX10_loadOf b) (v1 : Int32) (s0 : Int32) (m : Mem) (h : B_X10_loadOf_14 N v1 s0 m = some b) : G Γ 2 0 m 14 [(0, .ref (oa (gw Γ) 95)), (1, .int v1)] [.int s0, .ref (oa (gw Γ) 95)] := by
  unfold B_X10_loadOf_14 at h
  obtain ⟨m_2, e_2, h⟩ := wr_some h
  refine g_putI (ci := 10) (j := 0) C dX10_loadOf_14 rfl (by decide) rfl inT_X10 (by decide) k_505 tyX10 tyX10_ok nmX10 rfl rfl rfl rfl rfl (G_m e_2 ?_)
  refine g_aload_n C dX10_loadOf_17 0 rfl rfl ?_
  refine g_getI (ci := 10) (j := 0) C dX10_loadOf_18 rfl (by decide) rfl inT_X10 (by decide) k_505 rfl rfl ?_
  refine g_if_le (tgt := 28) C dX10_loadOf_21 (by decide) (fun c_4 => ?_) (fun c_4 => ?_)
  · replace h := it_t c_4 h
    refine g_aload_n C dX10_loadOf_28 0 rfl rfl ?_
    refine g_iload_n C dX10_loadOf_29 1 rfl rfl ?_
    obtain ⟨r_3, m_3, hk_3, h⟩ := b2_some h
    refine g_vI (As := [.int v1]) (a := 95) (ci := 10) C dX10_loadOf_30 mf_X10_reviewsBy k_621 rfl (by decide) ⟨by decide, by decide⟩ rfl rfl (Nat.le_of_ble_eq_true rfl) (by decide) rfl (c_X10_reviewsBy N (gl Γ) C.2.2.2.2 (gw Γ) v1 m_2 _ hk_3) ?_
    obtain rfl := Option.some.inj h
    exact hE 33 _ dX10_loadOf_33
  · replace h := it_f c_4 h
    refine g_iconst (v := (0 : Int32)) C dX10_loadOf_24 (by decide) ?_
    refine g_goto (tgt := 33) C dX10_loadOf_25 (by decide) ?_
    obtain rfl := Option.some.inj h
    exact hE 33 _ dX10_loadOf_33
set_option maxRecDepth 100000 in
set_option maxHeartbeats 4000000 in
theorem t_X10_loadOf (N : Nat) (Γ : Gc) (C : Cx Γ cX10_loadOf 2 RX10 (rmK 2 43 0)) (v1 : Int32) (m : Mem) (b : Int32 × Mem) (h : f_X10_loadOf N v1 m = some b) (hE : EIn Γ 2 cX10_loadOf b) : G Γ 2 0 m 0 [(0, .ref (oa (gw Γ) 95)), (1, .int v1)] [] := by
  unfold f_X10_loadOf at h
  refine g_aload_n C dX10_loadOf_0 0 rfl rfl ?_
  refine g_aload_n C dX10_loadOf_1 0 rfl rfl ?_
  refine g_iload_n C dX10_loadOf_2 1 rfl rfl ?_
  obtain ⟨r_1, m_1, hk_1, h⟩ := b2_some h
  refine g_vI (As := [.int v1]) (a := 95) (ci := 10) C dX10_loadOf_3 mf_X10_isReviewer k_625 rfl (by decide) ⟨by decide, by decide⟩ rfl rfl (Nat.le_of_ble_eq_true rfl) (by decide) rfl (c_X10_isReviewer N (gl Γ) C.2.2.2.2 (gw Γ) v1 m _ hk_1) ?_
  refine g_if_eq (tgt := 13) C dX10_loadOf_6 (by decide) (fun c_5 => ?_) (fun c_5 => ?_)
  · replace h := it_t c_5 h
    refine g_iconst (v := (1 : Int32)) C dX10_loadOf_13 (by decide) ?_
    refine g_sub [0, 1] rfl ?_
    exact t_X10_loadOf_14 N Γ C b hE v1 (1 : Int32) m_1 h
  · replace h := it_f c_5 h
    refine g_iconst (v := (0 : Int32)) C dX10_loadOf_9 (by decide) ?_
    refine g_goto (tgt := 14) C dX10_loadOf_10 (by decide) ?_
    refine g_sub [0, 1] rfl ?_
    exact t_X10_loadOf_14 N Γ C b hE v1 (0 : Int32) m_1 h
theorem c_X10_loadOf (N : Nat) (l : Launch) (hst : l.stackTraces = false) (w : Om) (v1 : Int32) (m : Mem) (o : Int32 × Mem) (h : f_X10_loadOf N v1 m = some o) : KI l yX10_loadOf cX10_loadOf 2 (some .int) 2 43 w [.ref (oa w 95), .int v1] m o.1 o.2 := KI_of hst (by decide +kernel) RX10 rfl (Nat.le_of_ble_eq_true rfl) (fun Γ hw hl C hE => by
  subst hw; subst hl
  exact t_X10_loadOf N Γ C v1 m o h hE)
def Ex_X10_matchSum_41 (Γ : Gc) (cs : Nat) (b : Int32 × Int32 × Int32 × Mem) : Prop := (∀ (y1 : Int32) (y2 : Int32) (y3 : Int32) (m' : Mem), b = (y1, y2, y3, m') → G Γ 5 cs m' 92 [(0, .ref (oa (gw Γ) 95)), (1, .int y1), (2, .int y2), (3, .int y3)] [])
set_option maxRecDepth 100000 in
set_option maxHeartbeats 4000000 in
theorem t_X10_matchSum_83 (N : Nat) (Γ : Gc) (C : Cx Γ cX10_matchSum 5 RX10 (rmK 2 46 0)) (rc : Int32 → Int32 → Int32 → Int32 → Mem → Option (Int32 × Int32 × Int32 × Mem)) (b : Int32 × Int32 × Int32 × Mem) (hE : Ex_X10_matchSum_41 Γ 0 b) (hrec : ∀ (v1 : Int32) (v2 : Int32) (v3 : Int32) (v4 : Int32) (m : Mem) (b : Int32 × Int32 × Int32 × Mem), rc v1 v2 v3 v4 m = some b → Ex_X10_matchSum_41 Γ 0 b → G Γ 5 0 m 41 [(0, .ref (oa (gw Γ) 95)), (1, .int v1), (2, .int v2), (3, .int v3), (4, .int v4)] []) (v1 : Int32) (v3 : Int32) (v4 : Int32) (s0 : Int32) (m : Mem) (h : B_X10_matchSum_83 N rc v1 v3 v4 s0 m = some b) : G Γ 5 0 m 83 [(0, .ref (oa (gw Γ) 95)), (1, .int v1), (3, .int v3), (4, .int v4)] [.int s0] := by
  unfold B_X10_matchSum_83 at h
  refine g_iconst (v := (0 : Int32)) C dX10_matchSum_83 (by decide) ?_
  refine g_iadd C dX10_matchSum_84 ?_
  refine g_istore_n (lv' := [(2, .int (s0 + (0 : Int32))), (0, .ref (oa (gw Γ) 95)), (1, .int v1), (3, .int v3), (4, .int v4)]) C dX10_matchSum_85 rfl (by decide) rfl ?_
  refine g_iinc (q := 4) (v := v4 + (1 : Int32)) (lv' := [(4, .int (v4 + (1 : Int32))), (2, .int (s0 + (0 : Int32))), (0, .ref (oa (gw Γ) 95)), (1, .int v1), (3, .int v3)]) C dX10_matchSum_86 rfl rfl (by decide) rfl ?_
  refine g_goto (tgt := 41) C dX10_matchSum_89 (by decide) ?_
  refine g_sub [2, 3, 1, 4, 0] rfl ?_
  exact hrec v1 (s0 + (0 : Int32)) v3 (v4 + (1 : Int32)) m b h hE
set_option maxRecDepth 100000 in
set_option maxHeartbeats 4000000 in
theorem t_X10_matchSum_41 (N : Nat) (Γ : Gc) (C : Cx Γ cX10_matchSum 5 RX10 (rmK 2 46 0)) (rc : Int32 → Int32 → Int32 → Int32 → Mem → Option (Int32 × Int32 × Int32 × Mem)) (b : Int32 × Int32 × Int32 × Mem) (hE : Ex_X10_matchSum_41 Γ 0 b) (hrec : ∀ (v1 : Int32) (v2 : Int32) (v3 : Int32) (v4 : Int32) (m : Mem) (b : Int32 × Int32 × Int32 × Mem), rc v1 v2 v3 v4 m = some b → Ex_X10_matchSum_41 Γ 0 b → G Γ 5 0 m 41 [(0, .ref (oa (gw Γ) 95)), (1, .int v1), (2, .int v2), (3, .int v3), (4, .int v4)] []) (v1 : Int32) (v2 : Int32) (v3 : Int32) (v4 : Int32) (m : Mem) (h : T_X10_matchSum_41 N rc v1 v2 v3 v4 m = some b) : G Γ 5 0 m 41 [(0, .ref (oa (gw Γ) 95)), (1, .int v1), (2, .int v2), (3, .int v3), (4, .int v4)] [] := by
  unfold T_X10_matchSum_41 at h
  refine g_iload C dX10_matchSum_41 4 rfl ?_
  refine g_aload_n C dX10_matchSum_43 0 rfl rfl ?_
  refine g_getT (b := 96) (ci := 10) (j := 1) C dX10_matchSum_44 rfl (by decide) rfl inT_X10 (by decide) k_506 rfl rfl rfl rfl ?_
  refine g_iconst (v := (1 : Int32)) C dX10_matchSum_47 (by decide) ?_
  refine g_iald' (j := 1) C dX10_matchSum_48 (okA_of rfl rfl (by decide)) (by decide) ?_
  refine g_icmp_ge (tgt := 92) C dX10_matchSum_49 (by decide) (fun c_8 => ?_) (fun c_8 => ?_)
  · replace h := it_t c_8 h
    obtain rfl := Option.some.inj h
    refine g_sub [0, 1, 2, 3] rfl ?_
    exact hE _ _ _ _ rfl
  · replace h := it_f c_8 h
    refine g_iload_n C dX10_matchSum_52 2 rfl rfl ?_
    refine g_aload_n C dX10_matchSum_53 0 rfl rfl ?_
    refine g_iload_n C dX10_matchSum_54 3 rfl rfl ?_
    refine g_iconst (v := (0 : Int32)) C dX10_matchSum_55 (by decide) ?_
    obtain ⟨r_3, m_3, hk_3, h⟩ := b2_some h
    refine g_vI (As := [.int v3, .int (0 : Int32)]) (a := 95) (ci := 10) C dX10_matchSum_56 mf_X10_proposal k_609 rfl (by decide) ⟨by decide, by decide⟩ rfl rfl (Nat.le_of_ble_eq_true rfl) (by decide) rfl (c_X10_proposal N (gl Γ) C.2.2.2.2 (gw Γ) v3 (0 : Int32) m _ hk_3) ?_
    refine g_iload_n C dX10_matchSum_59 1 rfl rfl ?_
    refine g_icmp_ne (tgt := 83) C dX10_matchSum_60 (by decide) (fun c_7 => ?_) (fun c_7 => ?_)
    · replace h := it_f c_7 h
      refine g_sub [0, 1, 3, 4] rfl ?_
      exact t_X10_matchSum_83 N Γ C rc b hE hrec v1 v3 v4 v2 m_3 h
    · replace h := it_t c_7 h
      refine g_aload_n C dX10_matchSum_63 0 rfl rfl ?_
      refine g_iload C dX10_matchSum_64 4 rfl ?_
      refine g_iload_n C dX10_matchSum_66 3 rfl rfl ?_
      obtain ⟨r_4, m_4, hk_4, h⟩ := b2_some h
      refine g_vI (As := [.int v4, .int v3]) (a := 95) (ci := 10) C dX10_matchSum_67 mf_X10_isReview k_594 rfl (by decide) ⟨by decide, by decide⟩ rfl rfl (Nat.le_of_ble_eq_true rfl) (by decide) rfl (c_X10_isReview N (gl Γ) C.2.2.2.2 (gw Γ) v4 v3 m_3 _ hk_4) ?_
      refine g_if_eq (tgt := 83) C dX10_matchSum_70 (by decide) (fun c_6 => ?_) (fun c_6 => ?_)
      · replace h := it_t c_6 h
        refine g_sub [0, 1, 3, 4] rfl ?_
        exact t_X10_matchSum_83 N Γ C rc b hE hrec v1 v3 v4 v2 m_4 h
      · replace h := it_f c_6 h
        refine g_aload_n C dX10_matchSum_73 0 rfl rfl ?_
        refine g_iload C dX10_matchSum_74 4 rfl ?_
        refine g_iload_n C dX10_matchSum_76 3 rfl rfl ?_
        obtain ⟨r_5, m_5, hk_5, h⟩ := b2_some h
        refine g_vI (As := [.int v4, .int v3]) (a := 95) (ci := 10) C dX10_matchSum_77 mf_X10_matches k_637 rfl (by decide) ⟨by decide, by decide⟩ rfl rfl (Nat.le_of_ble_eq_true rfl) (by decide) rfl (c_X10_matches N (gl Γ) C.2.2.2.2 (gw Γ) v4 v3 m_4 _ hk_5) ?_
        refine g_goto (tgt := 84) C dX10_matchSum_80 (by decide) ?_
        refine g_iadd C dX10_matchSum_84 ?_
        refine g_istore_n (lv' := [(2, .int (v2 + r_5)), (0, .ref (oa (gw Γ) 95)), (1, .int v1), (3, .int v3), (4, .int v4)]) C dX10_matchSum_85 rfl (by decide) rfl ?_
        refine g_iinc (q := 4) (v := v4 + (1 : Int32)) (lv' := [(4, .int (v4 + (1 : Int32))), (2, .int (v2 + r_5)), (0, .ref (oa (gw Γ) 95)), (1, .int v1), (3, .int v3)]) C dX10_matchSum_86 rfl rfl (by decide) rfl ?_
        refine g_goto (tgt := 41) C dX10_matchSum_89 (by decide) ?_
        refine g_sub [2, 3, 1, 4, 0] rfl ?_
        exact hrec v1 (v2 + r_5) v3 (v4 + (1 : Int32)) m_5 b h hE
theorem lt_X10_matchSum_41 (N : Nat) (Γ : Gc) (C : Cx Γ cX10_matchSum 5 RX10 (rmK 2 46 0)) : ∀ (n : Nat) (v1 : Int32) (v2 : Int32) (v3 : Int32) (v4 : Int32) (m : Mem) (b : Int32 × Int32 × Int32 × Mem), L_X10_matchSum_41 N n v1 v2 v3 v4 m = some b → Ex_X10_matchSum_41 Γ 0 b → G Γ 5 0 m 41 [(0, .ref (oa (gw Γ) 95)), (1, .int v1), (2, .int v2), (3, .int v3), (4, .int v4)] [] := by
  intro n
  induction n with
  | zero =>
    intro v1 v2 v3 v4 m b h
    have h9 : (none : Option (Int32 × Int32 × Int32 × Mem)) = some b := h
    cases h9
  | succ n ih => intro v1 v2 v3 v4 m b h hE; exact t_X10_matchSum_41 N Γ C (L_X10_matchSum_41 N n) b hE ih v1 v2 v3 v4 m h
def Ex_X10_matchSum_21 (Γ : Gc) (cs : Nat) (b : Int32 × Mem) : Prop := (∀ (y2 : Int32) (m' : Mem), b = (y2, m') → G Γ 5 cs m' 98 [(2, .int y2)] [])
set_option maxRecDepth 100000 in
set_option maxHeartbeats 4000000 in
theorem t_X10_matchSum_21 (N : Nat) (Γ : Gc) (C : Cx Γ cX10_matchSum 5 RX10 (rmK 2 46 0)) (rc : Int32 → Int32 → Int32 → Mem → Option (Int32 × Mem)) (b : Int32 × Mem) (hE : Ex_X10_matchSum_21 Γ 0 b) (hrec : ∀ (v1 : Int32) (v2 : Int32) (v3 : Int32) (m : Mem) (b : Int32 × Mem), rc v1 v2 v3 m = some b → Ex_X10_matchSum_21 Γ 0 b → G Γ 5 0 m 21 [(0, .ref (oa (gw Γ) 95)), (1, .int v1), (2, .int v2), (3, .int v3)] []) (v1 : Int32) (v2 : Int32) (v3 : Int32) (m : Mem) (h : T_X10_matchSum_21 N rc v1 v2 v3 m = some b) : G Γ 5 0 m 21 [(0, .ref (oa (gw Γ) 95)), (1, .int v1), (2, .int v2), (3, .int v3)] [] := by
  unfold T_X10_matchSum_21 at h
  refine g_iload_n C dX10_matchSum_21 3 rfl rfl ?_
  refine g_aload_n C dX10_matchSum_22 0 rfl rfl ?_
  refine g_getT (b := 96) (ci := 10) (j := 1) C dX10_matchSum_23 rfl (by decide) rfl inT_X10 (by decide) k_506 rfl rfl rfl rfl ?_
  refine g_iconst (v := (2 : Int32)) C dX10_matchSum_26 (by decide) ?_
  refine g_iald' (j := 2) C dX10_matchSum_27 (okA_of rfl rfl (by decide)) (by decide) ?_
  refine g_icmp_ge (tgt := 98) C dX10_matchSum_28 (by decide) (fun c_11 => ?_) (fun c_11 => ?_)
  · replace h := it_t c_11 h
    obtain rfl := Option.some.inj h
    refine g_sub [2] rfl ?_
    exact hE _ _ rfl
  · replace h := it_f c_11 h
    refine g_aload_n C dX10_matchSum_31 0 rfl rfl ?_
    refine g_getI (ci := 10) (j := 0) C dX10_matchSum_32 rfl (by decide) rfl inT_X10 (by decide) k_505 rfl rfl ?_
    refine g_if_ne (tgt := 98) C dX10_matchSum_35 (by decide) (fun c_10 => ?_) (fun c_10 => ?_)
    · replace h := it_f c_10 h
      obtain rfl := Option.some.inj h
      refine g_sub [2] rfl ?_
      exact hE _ _ rfl
    · replace h := it_t c_10 h
      refine g_iconst (v := (0 : Int32)) C dX10_matchSum_38 (by decide) ?_
      refine g_istore (lv' := [(4, .int (0 : Int32)), (0, .ref (oa (gw Γ) 95)), (1, .int v1), (2, .int v2), (3, .int v3)]) C dX10_matchSum_39 (by decide) rfl ?_
      obtain ⟨v1_9, v2_9, v3_9, m_9, hx, h⟩ := l4_some h
      refine g_sub [1, 2, 3, 4, 0] rfl ?_
      refine lt_X10_matchSum_41 N Γ C N v1 v2 v3 (0 : Int32) m _ hx ?_
      intro z1 z2 z3 m9 e9
      cases e9
      refine g_iinc (q := 3) (v := v3_9 + (1 : Int32)) (lv' := [(3, .int (v3_9 + (1 : Int32))), (0, .ref (oa (gw Γ) 95)), (1, .int v1_9), (2, .int v2_9)]) C dX10_matchSum_92 rfl rfl (by decide) rfl ?_
      refine g_goto (tgt := 21) C dX10_matchSum_95 (by decide) ?_
      refine g_sub [1, 2, 3, 0] rfl ?_
      exact hrec v1_9 v2_9 (v3_9 + (1 : Int32)) m_9 b h hE
theorem lt_X10_matchSum_21 (N : Nat) (Γ : Gc) (C : Cx Γ cX10_matchSum 5 RX10 (rmK 2 46 0)) : ∀ (n : Nat) (v1 : Int32) (v2 : Int32) (v3 : Int32) (m : Mem) (b : Int32 × Mem), L_X10_matchSum_21 N n v1 v2 v3 m = some b → Ex_X10_matchSum_21 Γ 0 b → G Γ 5 0 m 21 [(0, .ref (oa (gw Γ) 95)), (1, .int v1), (2, .int v2), (3, .int v3)] [] := by
  intro n
  induction n with
  | zero =>
    intro v1 v2 v3 m b h
    have h9 : (none : Option (Int32 × Mem)) = some b := h
    cases h9
  | succ n ih => intro v1 v2 v3 m b h hE; exact t_X10_matchSum_21 N Γ C (L_X10_matchSum_21 N n) b hE ih v1 v2 v3 m h
set_option maxRecDepth 100000 in
set_option maxHeartbeats 4000000 in
theorem t_X10_matchSum_14 (N : Nat) (Γ : Gc) (C : Cx Γ cX10_matchSum 5 RX10 (rmK 2 46 0)) (b : Int32 × Mem) (hE : EIn Γ 5 cX10_matchSum b) (v1 : Int32) (s0 : Int32) (m : Mem) (h : B_X10_matchSum_14 N v1 s0 m = some b) : G Γ 5 0 m 14 [(0, .ref (oa (gw Γ) 95)), (1, .int v1)] [.int s0, .ref (oa (gw Γ) 95)] := by
  unfold B_X10_matchSum_14 at h
  obtain ⟨m_2, e_2, h⟩ := wr_some h
  refine g_putI (ci := 10) (j := 0) C dX10_matchSum_14 rfl (by decide) rfl inT_X10 (by decide) k_505 tyX10 tyX10_ok nmX10 rfl rfl rfl rfl rfl (G_m e_2 ?_)
  refine g_iconst (v := (0 : Int32)) C dX10_matchSum_17 (by decide) ?_
  refine g_istore_n (lv' := [(2, .int (0 : Int32)), (0, .ref (oa (gw Γ) 95)), (1, .int v1)]) C dX10_matchSum_18 rfl (by decide) rfl ?_
  refine g_iconst (v := (0 : Int32)) C dX10_matchSum_19 (by decide) ?_
  refine g_istore_n (lv' := [(3, .int (0 : Int32)), (2, .int (0 : Int32)), (0, .ref (oa (gw Γ) 95)), (1, .int v1)]) C dX10_matchSum_20 rfl (by decide) rfl ?_
  obtain ⟨v2_12, m_12, hx, h⟩ := l2_some h
  refine g_sub [2, 3, 1, 0] rfl ?_
  refine lt_X10_matchSum_21 N Γ C N v1 (0 : Int32) (0 : Int32) m_2 _ hx ?_
  intro z2 m9 e9
  cases e9
  refine g_iload_n C dX10_matchSum_98 0 rfl rfl ?_
  obtain rfl := Option.some.inj h
  exact hE 99 _ dX10_matchSum_99
set_option maxRecDepth 100000 in
set_option maxHeartbeats 4000000 in
theorem t_X10_matchSum (N : Nat) (Γ : Gc) (C : Cx Γ cX10_matchSum 5 RX10 (rmK 2 46 0)) (v1 : Int32) (m : Mem) (b : Int32 × Mem) (h : f_X10_matchSum N v1 m = some b) (hE : EIn Γ 5 cX10_matchSum b) : G Γ 5 0 m 0 [(0, .ref (oa (gw Γ) 95)), (1, .int v1)] [] := by
  unfold f_X10_matchSum at h
  refine g_aload_n C dX10_matchSum_0 0 rfl rfl ?_
  refine g_aload_n C dX10_matchSum_1 0 rfl rfl ?_
  refine g_iload_n C dX10_matchSum_2 1 rfl rfl ?_
  obtain ⟨r_1, m_1, hk_1, h⟩ := b2_some h
  refine g_vI (As := [.int v1]) (a := 95) (ci := 10) C dX10_matchSum_3 mf_X10_isPanel k_660 rfl (by decide) ⟨by decide, by decide⟩ rfl rfl (Nat.le_of_ble_eq_true rfl) (by decide) rfl (c_X10_isPanel N (gl Γ) C.2.2.2.2 (gw Γ) v1 m _ hk_1) ?_
  refine g_if_eq (tgt := 13) C dX10_matchSum_6 (by decide) (fun c_13 => ?_) (fun c_13 => ?_)
  · replace h := it_t c_13 h
    refine g_iconst (v := (1 : Int32)) C dX10_matchSum_13 (by decide) ?_
    refine g_sub [0, 1] rfl ?_
    exact t_X10_matchSum_14 N Γ C b hE v1 (1 : Int32) m_1 h
  · replace h := it_f c_13 h
    refine g_iconst (v := (0 : Int32)) C dX10_matchSum_9 (by decide) ?_
    refine g_goto (tgt := 14) C dX10_matchSum_10 (by decide) ?_
    refine g_sub [0, 1] rfl ?_
    exact t_X10_matchSum_14 N Γ C b hE v1 (0 : Int32) m_1 h
theorem c_X10_matchSum (N : Nat) (l : Launch) (hst : l.stackTraces = false) (w : Om) (v1 : Int32) (m : Mem) (o : Int32 × Mem) (h : f_X10_matchSum N v1 m = some o) : KI l yX10_matchSum cX10_matchSum 5 (some .int) 2 46 w [.ref (oa w 95), .int v1] m o.1 o.2 := KI_of hst (by decide +kernel) RX10 rfl (Nat.le_of_ble_eq_true rfl) (fun Γ hw hl C hE => by
  subst hw; subst hl
  exact t_X10_matchSum N Γ C v1 m o h hE)
def Ex_X10_takenOf_4 (Γ : Gc) (cs : Nat) (b : Int32 × Mem) : Prop := (∀ (y2 : Int32) (m' : Mem), b = (y2, m') → G Γ 4 cs m' 41 [(2, .int y2)] [])
set_option maxRecDepth 100000 in
set_option maxHeartbeats 4000000 in
theorem t_X10_takenOf_4 (N : Nat) (Γ : Gc) (C : Cx Γ cX10_takenOf 4 RX10 (rmK 1 21 0)) (rc : Int32 → Int32 → Int32 → Mem → Option (Int32 × Mem)) (b : Int32 × Mem) (hE : Ex_X10_takenOf_4 Γ 0 b) (hrec : ∀ (v1 : Int32) (v2 : Int32) (v3 : Int32) (m : Mem) (b : Int32 × Mem), rc v1 v2 v3 m = some b → Ex_X10_takenOf_4 Γ 0 b → G Γ 4 0 m 4 [(0, .ref (oa (gw Γ) 95)), (1, .int v1), (2, .int v2), (3, .int v3)] []) (v1 : Int32) (v2 : Int32) (v3 : Int32) (m : Mem) (h : T_X10_takenOf_4 N rc v1 v2 v3 m = some b) : G Γ 4 0 m 4 [(0, .ref (oa (gw Γ) 95)), (1, .int v1), (2, .int v2), (3, .int v3)] [] := by
  unfold T_X10_takenOf_4 at h
  refine g_iload_n C dX10_takenOf_4 3 rfl rfl ?_
  refine g_aload_n C dX10_takenOf_5 0 rfl rfl ?_
  refine g_getT (b := 96) (ci := 10) (j := 1) C dX10_takenOf_6 rfl (by decide) rfl inT_X10 (by decide) k_506 rfl rfl rfl rfl ?_
  refine g_iconst (v := (1 : Int32)) C dX10_takenOf_9 (by decide) ?_
  refine g_iald' (j := 1) C dX10_takenOf_10 (okA_of rfl rfl (by decide)) (by decide) ?_
  refine g_icmp_ge (tgt := 41) C dX10_takenOf_11 (by decide) (fun c_4 => ?_) (fun c_4 => ?_)
  · replace h := it_t c_4 h
    obtain rfl := Option.some.inj h
    refine g_sub [2] rfl ?_
    exact hE _ _ rfl
  · replace h := it_f c_4 h
    refine g_iload_n C dX10_takenOf_14 2 rfl rfl ?_
    refine g_aload_n C dX10_takenOf_15 0 rfl rfl ?_
    refine g_getT (b := 101) (ci := 10) (j := 12) C dX10_takenOf_16 rfl (by decide) rfl inT_X10 (by decide) k_668 rfl rfl rfl rfl ?_
    refine g_iload_n C dX10_takenOf_19 3 rfl rfl ?_
    obtain ⟨g_1, h⟩ := gd_some h
    refine g_iald C dX10_takenOf_20 (okA_of rfl rfl g_1) ?_
    refine g_iload_n C dX10_takenOf_21 1 rfl rfl ?_
    obtain ⟨r_2, m_2, hk_2, h⟩ := b2_some h
    refine g_sI (As := [.int (gI m 101 v3.toNatClampNeg), .int v1]) C dX10_takenOf_22 mf_X10_has k_591 ⟨by decide, by decide⟩ rfl rfl (Nat.le_of_ble_eq_true rfl) (by decide) (c_X10_has N (gl Γ) C.2.2.2.2 (gw Γ) (gI m 101 v3.toNatClampNeg) v1 m _ hk_2) ?_
    refine g_if_eq (tgt := 32) C dX10_takenOf_25 (by decide) (fun c_3 => ?_) (fun c_3 => ?_)
    · replace h := it_t c_3 h
      refine g_iconst (v := (0 : Int32)) C dX10_takenOf_32 (by decide) ?_
      refine g_iadd C dX10_takenOf_33 ?_
      refine g_istore_n (lv' := [(2, .int (v2 + (0 : Int32))), (0, .ref (oa (gw Γ) 95)), (1, .int v1), (3, .int v3)]) C dX10_takenOf_34 rfl (by decide) rfl ?_
      refine g_iinc (q := 3) (v := v3 + (1 : Int32)) (lv' := [(3, .int (v3 + (1 : Int32))), (2, .int (v2 + (0 : Int32))), (0, .ref (oa (gw Γ) 95)), (1, .int v1)]) C dX10_takenOf_35 rfl rfl (by decide) rfl ?_
      refine g_goto (tgt := 4) C dX10_takenOf_38 (by decide) ?_
      refine g_sub [2, 3, 1, 0] rfl ?_
      exact hrec v1 (v2 + (0 : Int32)) (v3 + (1 : Int32)) m_2 b h hE
    · replace h := it_f c_3 h
      refine g_iconst (v := (1 : Int32)) C dX10_takenOf_28 (by decide) ?_
      refine g_goto (tgt := 33) C dX10_takenOf_29 (by decide) ?_
      refine g_iadd C dX10_takenOf_33 ?_
      refine g_istore_n (lv' := [(2, .int (v2 + (1 : Int32))), (0, .ref (oa (gw Γ) 95)), (1, .int v1), (3, .int v3)]) C dX10_takenOf_34 rfl (by decide) rfl ?_
      refine g_iinc (q := 3) (v := v3 + (1 : Int32)) (lv' := [(3, .int (v3 + (1 : Int32))), (2, .int (v2 + (1 : Int32))), (0, .ref (oa (gw Γ) 95)), (1, .int v1)]) C dX10_takenOf_35 rfl rfl (by decide) rfl ?_
      refine g_goto (tgt := 4) C dX10_takenOf_38 (by decide) ?_
      refine g_sub [2, 3, 1, 0] rfl ?_
      exact hrec v1 (v2 + (1 : Int32)) (v3 + (1 : Int32)) m_2 b h hE
theorem lt_X10_takenOf_4 (N : Nat) (Γ : Gc) (C : Cx Γ cX10_takenOf 4 RX10 (rmK 1 21 0)) : ∀ (n : Nat) (v1 : Int32) (v2 : Int32) (v3 : Int32) (m : Mem) (b : Int32 × Mem), L_X10_takenOf_4 N n v1 v2 v3 m = some b → Ex_X10_takenOf_4 Γ 0 b → G Γ 4 0 m 4 [(0, .ref (oa (gw Γ) 95)), (1, .int v1), (2, .int v2), (3, .int v3)] [] := by
  intro n
  induction n with
  | zero =>
    intro v1 v2 v3 m b h
    have h9 : (none : Option (Int32 × Mem)) = some b := h
    cases h9
  | succ n ih => intro v1 v2 v3 m b h hE; exact t_X10_takenOf_4 N Γ C (L_X10_takenOf_4 N n) b hE ih v1 v2 v3 m h
set_option maxRecDepth 100000 in
set_option maxHeartbeats 4000000 in
theorem t_X10_takenOf (N : Nat) (Γ : Gc) (C : Cx Γ cX10_takenOf 4 RX10 (rmK 1 21 0)) (v1 : Int32) (m : Mem) (b : Int32 × Mem) (h : f_X10_takenOf N v1 m = some b) (hE : EIn Γ 4 cX10_takenOf b) : G Γ 4 0 m 0 [(0, .ref (oa (gw Γ) 95)), (1, .int v1)] [] := by
  unfold f_X10_takenOf at h
  refine g_iconst (v := (0 : Int32)) C dX10_takenOf_0 (by decide) ?_
  refine g_istore_n (lv' := [(2, .int (0 : Int32)), (0, .ref (oa (gw Γ) 95)), (1, .int v1)]) C dX10_takenOf_1 rfl (by decide) rfl ?_
  refine g_iconst (v := (0 : Int32)) C dX10_takenOf_2 (by decide) ?_
  refine g_istore_n (lv' := [(3, .int (0 : Int32)), (2, .int (0 : Int32)), (0, .ref (oa (gw Γ) 95)), (1, .int v1)]) C dX10_takenOf_3 rfl (by decide) rfl ?_
  obtain ⟨v2_5, m_5, hx, h⟩ := l2_some h
  refine g_sub [2, 3, 1, 0] rfl ?_
  refine lt_X10_takenOf_4 N Γ C N v1 (0 : Int32) (0 : Int32) m _ hx ?_
  intro z2 m9 e9
  cases e9
  refine g_iload_n C dX10_takenOf_41 0 rfl rfl ?_
  obtain rfl := Option.some.inj h
  exact hE 42 _ dX10_takenOf_42
theorem c_X10_takenOf (N : Nat) (l : Launch) (hst : l.stackTraces = false) (w : Om) (v1 : Int32) (m : Mem) (o : Int32 × Mem) (h : f_X10_takenOf N v1 m = some o) : KI l yX10_takenOf cX10_takenOf 4 (some .int) 1 21 w [.ref (oa w 95), .int v1] m o.1 o.2 := KI_of hst (by decide +kernel) RX10 rfl (Nat.le_of_ble_eq_true rfl) (fun Γ hw hl C hE => by
  subst hw; subst hl
  exact t_X10_takenOf N Γ C v1 m o h hE)
set_option maxRecDepth 100000 in
set_option maxHeartbeats 4000000 in
theorem t_X10_reaches (N : Nat) (Γ : Gc) (C : Cx Γ cX10_reaches 4 RX10 (rmK 0 0 0)) (v1 : Int32) (v2 : Int32) (v3 : Int32) (m : Mem) (b : Int32 × Mem) (h : f_X10_reaches N v1 v2 v3 m = some b) (hE : EZn Γ 4 cX10_reaches b) : G Γ 4 0 m 0 [(0, .ref (oa (gw Γ) 95)), (1, .int v1), (2, .int v2), (3, .int v3)] [] := by
  unfold f_X10_reaches at h
  refine g_iload_n C dX10_reaches_0 2 rfl rfl ?_
  refine g_aload_n C dX10_reaches_1 0 rfl rfl ?_
  refine g_getT (b := 102) (ci := 10) (j := 13) C dX10_reaches_2 rfl (by decide) rfl inT_X10 (by decide) k_669 rfl rfl rfl rfl ?_
  refine g_iload_n C dX10_reaches_5 1 rfl rfl ?_
  obtain ⟨g_1, h⟩ := gd_some h
  refine g_iald C dX10_reaches_6 (okA_of rfl rfl g_1) ?_
  refine g_icmp_gt (tgt := 12) C dX10_reaches_7 (by decide) (fun c_4 => ?_) (fun c_4 => ?_)
  · replace h := it_t c_4 h
    refine g_aload_n C dX10_reaches_12 0 rfl rfl ?_
    refine g_getT (b := 102) (ci := 10) (j := 13) C dX10_reaches_13 rfl (by decide) rfl inT_X10 (by decide) k_669 rfl rfl rfl rfl ?_
    refine g_iload_n C dX10_reaches_16 1 rfl rfl ?_
    refine g_iload_n C dX10_reaches_17 2 rfl rfl ?_
    obtain ⟨m_2, e_2, h⟩ := wr_some h
    refine g_iast C dX10_reaches_18 (okA_of rfl rfl g_1) (G_m e_2 ?_)
    refine g_aload_n C dX10_reaches_19 0 rfl rfl ?_
    refine g_getT (b := 103) (ci := 10) (j := 14) C dX10_reaches_20 rfl (by decide) rfl inT_X10 (by decide) k_670 rfl rfl rfl rfl ?_
    refine g_iload_n C dX10_reaches_23 1 rfl rfl ?_
    refine g_iload_n C dX10_reaches_24 3 rfl rfl ?_
    obtain ⟨m_3, e_3, h⟩ := wr_some h
    refine g_iast C dX10_reaches_25 (okA_of rfl rfl g_1) (G_m e_3 ?_)
    refine g_iconst (v := (1 : Int32)) C dX10_reaches_26 (by decide) ?_
    obtain rfl := Option.some.inj h
    exact hE 27 _ (show isB (1 : Int32) = true by decide) dX10_reaches_27
  · replace h := it_f c_4 h
    refine g_iconst (v := (0 : Int32)) C dX10_reaches_10 (by decide) ?_
    obtain rfl := Option.some.inj h
    exact hE 11 _ (show isB (0 : Int32) = true by decide) dX10_reaches_11
theorem c_X10_reaches (N : Nat) (l : Launch) (hst : l.stackTraces = false) (w : Om) (v1 : Int32) (v2 : Int32) (v3 : Int32) (m : Mem) (o : Int32 × Mem) (h : f_X10_reaches N v1 v2 v3 m = some o) : KI l yX10_reaches cX10_reaches 4 (some .boolean) 0 0 w [.ref (oa w 95), .int v1, .int v2, .int v3] m o.1 o.2 := KZ_of hst (by decide +kernel) RX10 rfl (Nat.le_of_ble_eq_true rfl) (fun Γ hw hl C hE => by
  subst hw; subst hl
  exact t_X10_reaches N Γ C v1 v2 v3 m o h hE)
def Ex_X10_reachesMore_17 (Γ : Gc) (cs : Nat) (b : Int32 × Int32 × Int32 × Mem) : Prop := (∀ (y1 : Int32) (y2 : Int32) (y3 : Int32) (m' : Mem), b = (y1, y2, y3, m') → G Γ 6 cs m' 169 [(0, .ref (oa (gw Γ) 95)), (1, .int y1), (2, .int y2), (3, .int y3)] [])
set_option maxRecDepth 100000 in
set_option maxHeartbeats 4000000 in
theorem t_X10_reachesMore_161 (N : Nat) (Γ : Gc) (C : Cx Γ cX10_reachesMore 6 RX10 (rmK 3 66 0)) (rc : Int32 → Int32 → Int32 → Int32 → Mem → Option (Int32 × Int32 × Int32 × Mem)) (b : Int32 × Int32 × Int32 × Mem) (hE : Ex_X10_reachesMore_17 Γ 0 b) (hrec : ∀ (v1 : Int32) (v2 : Int32) (v3 : Int32) (v4 : Int32) (m : Mem) (b : Int32 × Int32 × Int32 × Mem), rc v1 v2 v3 v4 m = some b → Ex_X10_reachesMore_17 Γ 0 b → G Γ 6 0 m 17 [(0, .ref (oa (gw Γ) 95)), (1, .int v1), (2, .int v2), (3, .int v3), (4, .int v4)] []) (v1 : Int32) (v3 : Int32) (v4 : Int32) (s0 : Int32) (s1 : Int32) (m : Mem) (h : B_X10_reachesMore_161 N rc v1 v3 v4 s0 s1 m = some b) : G Γ 6 0 m 161 [(0, .ref (oa (gw Γ) 95)), (1, .int v1), (3, .int v3), (4, .int v4)] [.int s0, .int s1] := by
  unfold B_X10_reachesMore_161 at h
  refine g_ior C dX10_reachesMore_161 ?_
  refine g_istore_n (lv' := [(2, .int (s1 ||| s0)), (0, .ref (oa (gw Γ) 95)), (1, .int v1), (3, .int v3), (4, .int v4)]) C dX10_reachesMore_162 rfl (by decide) rfl ?_
  refine g_iinc (q := 4) (v := v4 + (1 : Int32)) (lv' := [(4, .int (v4 + (1 : Int32))), (2, .int (s1 ||| s0)), (0, .ref (oa (gw Γ) 95)), (1, .int v1), (3, .int v3)]) C dX10_reachesMore_163 rfl rfl (by decide) rfl ?_
  refine g_goto (tgt := 17) C dX10_reachesMore_166 (by decide) ?_
  refine g_sub [2, 3, 1, 4, 0] rfl ?_
  exact hrec v1 (s1 ||| s0) v3 (v4 + (1 : Int32)) m b h hE
set_option maxRecDepth 100000 in
set_option maxHeartbeats 4000000 in
theorem t_X10_reachesMore_160 (N : Nat) (Γ : Gc) (C : Cx Γ cX10_reachesMore 6 RX10 (rmK 3 66 0)) (rc : Int32 → Int32 → Int32 → Int32 → Mem → Option (Int32 × Int32 × Int32 × Mem)) (b : Int32 × Int32 × Int32 × Mem) (hE : Ex_X10_reachesMore_17 Γ 0 b) (hrec : ∀ (v1 : Int32) (v2 : Int32) (v3 : Int32) (v4 : Int32) (m : Mem) (b : Int32 × Int32 × Int32 × Mem), rc v1 v2 v3 v4 m = some b → Ex_X10_reachesMore_17 Γ 0 b → G Γ 6 0 m 17 [(0, .ref (oa (gw Γ) 95)), (1, .int v1), (2, .int v2), (3, .int v3), (4, .int v4)] []) (v1 : Int32) (v3 : Int32) (v4 : Int32) (s0 : Int32) (m : Mem) (h : B_X10_reachesMore_160 N rc v1 v3 v4 s0 m = some b) : G Γ 6 0 m 160 [(0, .ref (oa (gw Γ) 95)), (1, .int v1), (3, .int v3), (4, .int v4)] [.int s0] := by
  unfold B_X10_reachesMore_160 at h
  refine g_iconst (v := (0 : Int32)) C dX10_reachesMore_160 (by decide) ?_
  refine g_sub [0, 1, 2, 3] rfl ?_
  exact t_X10_reachesMore_161 N Γ C rc b hE hrec v1 v3 v4 (0 : Int32) s0 m h
set_option maxRecDepth 100000 in
set_option maxHeartbeats 4000000 in
theorem t_X10_reachesMore_115 (N : Nat) (Γ : Gc) (C : Cx Γ cX10_reachesMore 6 RX10 (rmK 3 66 0)) (rc : Int32 → Int32 → Int32 → Int32 → Mem → Option (Int32 × Int32 × Int32 × Mem)) (b : Int32 × Int32 × Int32 × Mem) (hE : Ex_X10_reachesMore_17 Γ 0 b) (hrec : ∀ (v1 : Int32) (v2 : Int32) (v3 : Int32) (v4 : Int32) (m : Mem) (b : Int32 × Int32 × Int32 × Mem), rc v1 v2 v3 v4 m = some b → Ex_X10_reachesMore_17 Γ 0 b → G Γ 6 0 m 17 [(0, .ref (oa (gw Γ) 95)), (1, .int v1), (2, .int v2), (3, .int v3), (4, .int v4)] []) (v1 : Int32) (v3 : Int32) (v4 : Int32) (s0 : Int32) (s1 : Int32) (m : Mem) (h : B_X10_reachesMore_115 N rc v1 v3 v4 s0 s1 m = some b) : G Γ 6 0 m 115 [(0, .ref (oa (gw Γ) 95)), (1, .int v1), (3, .int v3), (4, .int v4)] [.int s0, .int s1] := by
  unfold B_X10_reachesMore_115 at h
  refine g_ior C dX10_reachesMore_115 ?_
  refine g_istore_n (lv' := [(2, .int (s1 ||| s0)), (0, .ref (oa (gw Γ) 95)), (1, .int v1), (3, .int v3), (4, .int v4)]) C dX10_reachesMore_116 rfl (by decide) rfl ?_
  refine g_goto (tgt := 163) C dX10_reachesMore_117 (by decide) ?_
  refine g_iinc (q := 4) (v := v4 + (1 : Int32)) (lv' := [(4, .int (v4 + (1 : Int32))), (2, .int (s1 ||| s0)), (0, .ref (oa (gw Γ) 95)), (1, .int v1), (3, .int v3)]) C dX10_reachesMore_163 rfl rfl (by decide) rfl ?_
  refine g_goto (tgt := 17) C dX10_reachesMore_166 (by decide) ?_
  refine g_sub [2, 3, 1, 4, 0] rfl ?_
  exact hrec v1 (s1 ||| s0) v3 (v4 + (1 : Int32)) m b h hE
set_option maxRecDepth 100000 in
set_option maxHeartbeats 4000000 in
theorem t_X10_reachesMore_114 (N : Nat) (Γ : Gc) (C : Cx Γ cX10_reachesMore 6 RX10 (rmK 3 66 0)) (rc : Int32 → Int32 → Int32 → Int32 → Mem → Option (Int32 × Int32 × Int32 × Mem)) (b : Int32 × Int32 × Int32 × Mem) (hE : Ex_X10_reachesMore_17 Γ 0 b) (hrec : ∀ (v1 : Int32) (v2 : Int32) (v3 : Int32) (v4 : Int32) (m : Mem) (b : Int32 × Int32 × Int32 × Mem), rc v1 v2 v3 v4 m = some b → Ex_X10_reachesMore_17 Γ 0 b → G Γ 6 0 m 17 [(0, .ref (oa (gw Γ) 95)), (1, .int v1), (2, .int v2), (3, .int v3), (4, .int v4)] []) (v1 : Int32) (v3 : Int32) (v4 : Int32) (s0 : Int32) (m : Mem) (h : B_X10_reachesMore_114 N rc v1 v3 v4 s0 m = some b) : G Γ 6 0 m 114 [(0, .ref (oa (gw Γ) 95)), (1, .int v1), (3, .int v3), (4, .int v4)] [.int s0] := by
  unfold B_X10_reachesMore_114 at h
  refine g_iconst (v := (0 : Int32)) C dX10_reachesMore_114 (by decide) ?_
  refine g_sub [0, 1, 2, 3] rfl ?_
  exact t_X10_reachesMore_115 N Γ C rc b hE hrec v1 v3 v4 (0 : Int32) s0 m h
set_option maxRecDepth 100000 in
set_option maxHeartbeats 4000000 in
theorem t_X10_reachesMore_17 (N : Nat) (Γ : Gc) (C : Cx Γ cX10_reachesMore 6 RX10 (rmK 3 66 0)) (rc : Int32 → Int32 → Int32 → Int32 → Mem → Option (Int32 × Int32 × Int32 × Mem)) (b : Int32 × Int32 × Int32 × Mem) (hE : Ex_X10_reachesMore_17 Γ 0 b) (hrec : ∀ (v1 : Int32) (v2 : Int32) (v3 : Int32) (v4 : Int32) (m : Mem) (b : Int32 × Int32 × Int32 × Mem), rc v1 v2 v3 v4 m = some b → Ex_X10_reachesMore_17 Γ 0 b → G Γ 6 0 m 17 [(0, .ref (oa (gw Γ) 95)), (1, .int v1), (2, .int v2), (3, .int v3), (4, .int v4)] []) (v1 : Int32) (v2 : Int32) (v3 : Int32) (v4 : Int32) (m : Mem) (h : T_X10_reachesMore_17 N rc v1 v2 v3 v4 m = some b) : G Γ 6 0 m 17 [(0, .ref (oa (gw Γ) 95)), (1, .int v1), (2, .int v2), (3, .int v3), (4, .int v4)] [] := by
  unfold T_X10_reachesMore_17 at h
  refine g_iload C dX10_reachesMore_17 4 rfl ?_
  refine g_aload_n C dX10_reachesMore_19 0 rfl rfl ?_
  refine g_getT (b := 96) (ci := 10) (j := 1) C dX10_reachesMore_20 rfl (by decide) rfl inT_X10 (by decide) k_506 rfl rfl rfl rfl ?_
  refine g_iconst (v := (1 : Int32)) C dX10_reachesMore_23 (by decide) ?_
  refine g_iald' (j := 1) C dX10_reachesMore_24 (okA_of rfl rfl (by decide)) (by decide) ?_
  refine g_icmp_ge (tgt := 169) C dX10_reachesMore_25 (by decide) (fun c_18 => ?_) (fun c_18 => ?_)
  · replace h := it_t c_18 h
    obtain rfl := Option.some.inj h
    refine g_sub [0, 1, 2, 3] rfl ?_
    exact hE _ _ _ _ rfl
  · replace h := it_f c_18 h
    refine g_aload_n C dX10_reachesMore_28 0 rfl rfl ?_
    refine g_iload_n C dX10_reachesMore_29 3 rfl rfl ?_
    refine g_iconst (v := (0 : Int32)) C dX10_reachesMore_30 (by decide) ?_
    obtain ⟨r_1, m_1, hk_1, h⟩ := b2_some h
    refine g_vI (As := [.int v3, .int (0 : Int32)]) (a := 95) (ci := 10) C dX10_reachesMore_31 mf_X10_proposal k_609 rfl (by decide) ⟨by decide, by decide⟩ rfl rfl (Nat.le_of_ble_eq_true rfl) (by decide) rfl (c_X10_proposal N (gl Γ) C.2.2.2.2 (gw Γ) v3 (0 : Int32) m _ hk_1) ?_
    refine g_iload_n C dX10_reachesMore_34 1 rfl rfl ?_
    refine g_icmp_ne (tgt := 169) C dX10_reachesMore_35 (by decide) (fun c_17 => ?_) (fun c_17 => ?_)
    · replace h := it_f c_17 h
      obtain rfl := Option.some.inj h
      refine g_sub [0, 1, 2, 3] rfl ?_
      exact hE _ _ _ _ rfl
    · replace h := it_t c_17 h
      refine g_aload_n C dX10_reachesMore_38 0 rfl rfl ?_
      refine g_iload C dX10_reachesMore_39 4 rfl ?_
      refine g_iload_n C dX10_reachesMore_41 3 rfl rfl ?_
      obtain ⟨r_2, m_2, hk_2, h⟩ := b2_some h
      refine g_vI (As := [.int v4, .int v3]) (a := 95) (ci := 10) C dX10_reachesMore_42 mf_X10_fits k_645 rfl (by decide) ⟨by decide, by decide⟩ rfl rfl (Nat.le_of_ble_eq_true rfl) (by decide) rfl (c_X10_fits N (gl Γ) C.2.2.2.2 (gw Γ) v4 v3 m_1 _ hk_2) ?_
      refine g_if_ne (tgt := 51) C dX10_reachesMore_45 (by decide) (fun c_16 => ?_) (fun c_16 => ?_)
      · replace h := it_f c_16 h
        refine g_bipush (v := (16 : Int32)) C dX10_reachesMore_51 (by decide) ?_
        refine g_iload C dX10_reachesMore_53 4 rfl ?_
        refine g_iadd C dX10_reachesMore_55 ?_
        refine g_istore (lv' := [(5, .int ((16 : Int32) + v4)), (0, .ref (oa (gw Γ) 95)), (1, .int v1), (2, .int v2), (3, .int v3), (4, .int v4)]) C dX10_reachesMore_56 (by decide) rfl ?_
        refine g_aload_n C dX10_reachesMore_58 1 rfl rfl ?_
        refine g_getT (b := 101) (ci := 10) (j := 12) C dX10_reachesMore_59 rfl (by decide) rfl inT_X10 (by decide) k_668 rfl rfl rfl rfl ?_
        refine g_iload C dX10_reachesMore_62 5 rfl ?_
        obtain ⟨g_3, h⟩ := gd_some h
        refine g_iald C dX10_reachesMore_64 (okA_of rfl rfl g_3) ?_
        refine g_iload_n C dX10_reachesMore_65 4 rfl rfl ?_
        obtain ⟨r_4, m_4, hk_4, h⟩ := b2_some h
        refine g_sI (As := [.int (gI m_2 101 v4.toNatClampNeg), .int v3]) C dX10_reachesMore_66 mf_X10_has k_591 ⟨by decide, by decide⟩ rfl rfl (Nat.le_of_ble_eq_true rfl) (by decide) (c_X10_has N (gl Γ) C.2.2.2.2 (gw Γ) (gI m_2 101 v4.toNatClampNeg) v3 m_2 _ hk_4) ?_
        refine g_if_eq (tgt := 120) C dX10_reachesMore_69 (by decide) (fun c_15 => ?_) (fun c_15 => ?_)
        · replace h := it_t c_15 h
          refine g_iload_n C dX10_reachesMore_120 3 rfl rfl ?_
          refine g_aload_n C dX10_reachesMore_121 1 rfl rfl ?_
          refine g_getT (b := 102) (ci := 10) (j := 13) C dX10_reachesMore_122 rfl (by decide) rfl inT_X10 (by decide) k_669 rfl rfl rfl rfl ?_
          refine g_iload_n C dX10_reachesMore_125 4 rfl rfl ?_
          obtain ⟨g_5, h⟩ := gd_some h
          refine g_iald C dX10_reachesMore_126 (okA_of rfl rfl g_5) ?_
          refine g_ldc (v := (-1000000 : Int32)) C dX10_reachesMore_127 k_671 ?_
          refine g_icmp_le (tgt := 160) C dX10_reachesMore_129 (by decide) (fun c_9 => ?_) (fun c_9 => ?_)
          · replace h := it_t c_9 h
            refine g_sub [1, 2, 4, 5] rfl ?_
            exact t_X10_reachesMore_160 N Γ C rc b hE hrec v1 v3 v4 v2 m_4 h
          · replace h := it_f c_9 h
            refine g_aload_n C dX10_reachesMore_132 1 rfl rfl ?_
            refine g_iload C dX10_reachesMore_133 0 rfl ?_
            refine g_aload_n C dX10_reachesMore_135 1 rfl rfl ?_
            refine g_getT (b := 102) (ci := 10) (j := 13) C dX10_reachesMore_136 rfl (by decide) rfl inT_X10 (by decide) k_669 rfl rfl rfl rfl ?_
            refine g_iload_n C dX10_reachesMore_139 4 rfl rfl ?_
            refine g_iald C dX10_reachesMore_140 (okA_of rfl rfl g_5) ?_
            refine g_aload_n C dX10_reachesMore_141 1 rfl rfl ?_
            refine g_iload C dX10_reachesMore_142 5 rfl ?_
            refine g_iload_n C dX10_reachesMore_144 4 rfl rfl ?_
            obtain ⟨r_6, m_6, hk_6, h⟩ := b2_some h
            refine g_vI (As := [.int v4, .int v3]) (a := 95) (ci := 10) C dX10_reachesMore_145 mf_X10_matches k_637 rfl (by decide) ⟨by decide, by decide⟩ rfl rfl (Nat.le_of_ble_eq_true rfl) (by decide) rfl (c_X10_matches N (gl Γ) C.2.2.2.2 (gw Γ) v4 v3 m_4 _ hk_6) ?_
            refine g_iadd C dX10_reachesMore_148 ?_
            refine g_iload_n C dX10_reachesMore_149 4 rfl rfl ?_
            obtain ⟨r_7, m_7, hk_7, h⟩ := b2_some h
            refine g_vI (As := [.int ((16 : Int32) + v4), .int ((gI m_4 102 v3.toNatClampNeg) + r_6), .int v3]) (a := 95) (ci := 10) C dX10_reachesMore_150 mf_X10_reaches k_672 rfl (by decide) ⟨by decide, by decide⟩ rfl rfl (Nat.le_of_ble_eq_true rfl) (by decide) rfl (c_X10_reaches N (gl Γ) C.2.2.2.2 (gw Γ) ((16 : Int32) + v4) ((gI m_4 102 v3.toNatClampNeg) + r_6) v3 m_6 _ hk_7) ?_
            refine g_if_eq (tgt := 160) C dX10_reachesMore_153 (by decide) (fun c_8 => ?_) (fun c_8 => ?_)
            · replace h := it_t c_8 h
              refine g_sub [1, 2, 4, 5] rfl ?_
              exact t_X10_reachesMore_160 N Γ C rc b hE hrec v1 v3 v4 v2 m_7 h
            · replace h := it_f c_8 h
              refine g_iconst (v := (1 : Int32)) C dX10_reachesMore_156 (by decide) ?_
              refine g_goto (tgt := 161) C dX10_reachesMore_157 (by decide) ?_
              refine g_sub [1, 2, 4, 5] rfl ?_
              exact t_X10_reachesMore_161 N Γ C rc b hE hrec v1 v3 v4 (1 : Int32) v2 m_7 h
        · replace h := it_f c_15 h
          refine g_iload_n C dX10_reachesMore_72 3 rfl rfl ?_
          refine g_aload_n C dX10_reachesMore_73 1 rfl rfl ?_
          refine g_getT (b := 102) (ci := 10) (j := 13) C dX10_reachesMore_74 rfl (by decide) rfl inT_X10 (by decide) k_669 rfl rfl rfl rfl ?_
          refine g_iload C dX10_reachesMore_77 0 rfl ?_
          obtain ⟨g_10, h⟩ := gd_some h
          refine g_iald C dX10_reachesMore_79 (okA_of rfl rfl g_10) ?_
          refine g_ldc (v := (-1000000 : Int32)) C dX10_reachesMore_80 k_671 ?_
          refine g_icmp_le (tgt := 114) C dX10_reachesMore_82 (by decide) (fun c_14 => ?_) (fun c_14 => ?_)
          · replace h := it_t c_14 h
            refine g_sub [1, 2, 4, 5] rfl ?_
            exact t_X10_reachesMore_114 N Γ C rc b hE hrec v1 v3 v4 v2 m_4 h
          · replace h := it_f c_14 h
            refine g_aload_n C dX10_reachesMore_85 1 rfl rfl ?_
            refine g_iload_n C dX10_reachesMore_86 4 rfl rfl ?_
            refine g_aload_n C dX10_reachesMore_87 1 rfl rfl ?_
            refine g_getT (b := 102) (ci := 10) (j := 13) C dX10_reachesMore_88 rfl (by decide) rfl inT_X10 (by decide) k_669 rfl rfl rfl rfl ?_
            refine g_iload C dX10_reachesMore_91 0 rfl ?_
            refine g_iald C dX10_reachesMore_93 (okA_of rfl rfl g_10) ?_
            refine g_aload_n C dX10_reachesMore_94 1 rfl rfl ?_
            refine g_iload C dX10_reachesMore_95 5 rfl ?_
            refine g_iload_n C dX10_reachesMore_97 4 rfl rfl ?_
            obtain ⟨r_11, m_11, hk_11, h⟩ := b2_some h
            refine g_vI (As := [.int v4, .int v3]) (a := 95) (ci := 10) C dX10_reachesMore_98 mf_X10_matches k_637 rfl (by decide) ⟨by decide, by decide⟩ rfl rfl (Nat.le_of_ble_eq_true rfl) (by decide) rfl (c_X10_matches N (gl Γ) C.2.2.2.2 (gw Γ) v4 v3 m_4 _ hk_11) ?_
            refine g_isub C dX10_reachesMore_101 ?_
            refine g_iload C dX10_reachesMore_102 0 rfl ?_
            obtain ⟨r_12, m_12, hk_12, h⟩ := b2_some h
            refine g_vI (As := [.int v3, .int ((gI m_4 102 ((16 : Int32) + v4).toNatClampNeg) - r_11), .int ((16 : Int32) + v4)]) (a := 95) (ci := 10) C dX10_reachesMore_104 mf_X10_reaches k_672 rfl (by decide) ⟨by decide, by decide⟩ rfl rfl (Nat.le_of_ble_eq_true rfl) (by decide) rfl (c_X10_reaches N (gl Γ) C.2.2.2.2 (gw Γ) v3 ((gI m_4 102 ((16 : Int32) + v4).toNatClampNeg) - r_11) ((16 : Int32) + v4) m_11 _ hk_12) ?_
            refine g_if_eq (tgt := 114) C dX10_reachesMore_107 (by decide) (fun c_13 => ?_) (fun c_13 => ?_)
            · replace h := it_t c_13 h
              refine g_sub [1, 2, 4, 5] rfl ?_
              exact t_X10_reachesMore_114 N Γ C rc b hE hrec v1 v3 v4 v2 m_12 h
            · replace h := it_f c_13 h
              refine g_iconst (v := (1 : Int32)) C dX10_reachesMore_110 (by decide) ?_
              refine g_goto (tgt := 115) C dX10_reachesMore_111 (by decide) ?_
              refine g_sub [1, 2, 4, 5] rfl ?_
              exact t_X10_reachesMore_115 N Γ C rc b hE hrec v1 v3 v4 (1 : Int32) v2 m_12 h
      · replace h := it_t c_16 h
        refine g_goto (tgt := 163) C dX10_reachesMore_48 (by decide) ?_
        refine g_iinc (q := 4) (v := v4 + (1 : Int32)) (lv' := [(4, .int (v4 + (1 : Int32))), (0, .ref (oa (gw Γ) 95)), (1, .int v1), (2, .int v2), (3, .int v3)]) C dX10_reachesMore_163 rfl rfl (by decide) rfl ?_
        refine g_goto (tgt := 17) C dX10_reachesMore_166 (by decide) ?_
        refine g_sub [1, 2, 3, 4, 0] rfl ?_
        exact hrec v1 v2 v3 (v4 + (1 : Int32)) m_2 b h hE
theorem lt_X10_reachesMore_17 (N : Nat) (Γ : Gc) (C : Cx Γ cX10_reachesMore 6 RX10 (rmK 3 66 0)) : ∀ (n : Nat) (v1 : Int32) (v2 : Int32) (v3 : Int32) (v4 : Int32) (m : Mem) (b : Int32 × Int32 × Int32 × Mem), L_X10_reachesMore_17 N n v1 v2 v3 v4 m = some b → Ex_X10_reachesMore_17 Γ 0 b → G Γ 6 0 m 17 [(0, .ref (oa (gw Γ) 95)), (1, .int v1), (2, .int v2), (3, .int v3), (4, .int v4)] [] := by
  intro n
  induction n with
  | zero =>
    intro v1 v2 v3 v4 m b h
    have h9 : (none : Option (Int32 × Int32 × Int32 × Mem)) = some b := h
    cases h9
  | succ n ih => intro v1 v2 v3 v4 m b h hE; exact t_X10_reachesMore_17 N Γ C (L_X10_reachesMore_17 N n) b hE ih v1 v2 v3 v4 m h
def Ex_X10_reachesMore_4 (Γ : Gc) (cs : Nat) (b : Int32 × Mem) : Prop := (∀ (y2 : Int32) (m' : Mem), b = (y2, m') → G Γ 6 cs m' 175 [(2, .int y2)] [])
set_option maxRecDepth 100000 in
set_option maxHeartbeats 4000000 in
theorem t_X10_reachesMore_4 (N : Nat) (Γ : Gc) (C : Cx Γ cX10_reachesMore 6 RX10 (rmK 3 66 0)) (rc : Int32 → Int32 → Int32 → Mem → Option (Int32 × Mem)) (b : Int32 × Mem) (hE : Ex_X10_reachesMore_4 Γ 0 b) (hrec : ∀ (v1 : Int32) (v2 : Int32) (v3 : Int32) (m : Mem) (b : Int32 × Mem), rc v1 v2 v3 m = some b → Ex_X10_reachesMore_4 Γ 0 b → G Γ 6 0 m 4 [(0, .ref (oa (gw Γ) 95)), (1, .int v1), (2, .int v2), (3, .int v3)] []) (v1 : Int32) (v2 : Int32) (v3 : Int32) (m : Mem) (h : T_X10_reachesMore_4 N rc v1 v2 v3 m = some b) : G Γ 6 0 m 4 [(0, .ref (oa (gw Γ) 95)), (1, .int v1), (2, .int v2), (3, .int v3)] [] := by
  unfold T_X10_reachesMore_4 at h
  refine g_iload_n C dX10_reachesMore_4 3 rfl rfl ?_
  refine g_aload_n C dX10_reachesMore_5 0 rfl rfl ?_
  refine g_getT (b := 96) (ci := 10) (j := 1) C dX10_reachesMore_6 rfl (by decide) rfl inT_X10 (by decide) k_506 rfl rfl rfl rfl ?_
  refine g_iconst (v := (2 : Int32)) C dX10_reachesMore_9 (by decide) ?_
  refine g_iald' (j := 2) C dX10_reachesMore_10 (okA_of rfl rfl (by decide)) (by decide) ?_
  refine g_icmp_ge (tgt := 175) C dX10_reachesMore_11 (by decide) (fun c_20 => ?_) (fun c_20 => ?_)
  · replace h := it_t c_20 h
    obtain rfl := Option.some.inj h
    refine g_sub [2] rfl ?_
    exact hE _ _ rfl
  · replace h := it_f c_20 h
    refine g_iconst (v := (0 : Int32)) C dX10_reachesMore_14 (by decide) ?_
    refine g_istore (lv' := [(4, .int (0 : Int32)), (0, .ref (oa (gw Γ) 95)), (1, .int v1), (2, .int v2), (3, .int v3)]) C dX10_reachesMore_15 (by decide) rfl ?_
    obtain ⟨v1_19, v2_19, v3_19, m_19, hx, h⟩ := l4_some h
    refine g_sub [1, 2, 3, 4, 0] rfl ?_
    refine lt_X10_reachesMore_17 N Γ C N v1 v2 v3 (0 : Int32) m _ hx ?_
    intro z1 z2 z3 m9 e9
    cases e9
    refine g_iinc (q := 3) (v := v3_19 + (1 : Int32)) (lv' := [(3, .int (v3_19 + (1 : Int32))), (0, .ref (oa (gw Γ) 95)), (1, .int v1_19), (2, .int v2_19)]) C dX10_reachesMore_169 rfl rfl (by decide) rfl ?_
    refine g_goto (tgt := 4) C dX10_reachesMore_172 (by decide) ?_
    refine g_sub [1, 2, 3, 0] rfl ?_
    exact hrec v1_19 v2_19 (v3_19 + (1 : Int32)) m_19 b h hE
theorem lt_X10_reachesMore_4 (N : Nat) (Γ : Gc) (C : Cx Γ cX10_reachesMore 6 RX10 (rmK 3 66 0)) : ∀ (n : Nat) (v1 : Int32) (v2 : Int32) (v3 : Int32) (m : Mem) (b : Int32 × Mem), L_X10_reachesMore_4 N n v1 v2 v3 m = some b → Ex_X10_reachesMore_4 Γ 0 b → G Γ 6 0 m 4 [(0, .ref (oa (gw Γ) 95)), (1, .int v1), (2, .int v2), (3, .int v3)] [] := by
  intro n
  induction n with
  | zero =>
    intro v1 v2 v3 m b h
    have h9 : (none : Option (Int32 × Mem)) = some b := h
    cases h9
  | succ n ih => intro v1 v2 v3 m b h hE; exact t_X10_reachesMore_4 N Γ C (L_X10_reachesMore_4 N n) b hE ih v1 v2 v3 m h
set_option maxRecDepth 100000 in
set_option maxHeartbeats 4000000 in
theorem t_X10_reachesMore (N : Nat) (Γ : Gc) (C : Cx Γ cX10_reachesMore 6 RX10 (rmK 3 66 0)) (v1 : Int32) (m : Mem) (b : Int32 × Mem) (h : f_X10_reachesMore N v1 m = some b) (hE : EZn Γ 6 cX10_reachesMore b) : G Γ 6 0 m 0 [(0, .ref (oa (gw Γ) 95)), (1, .int v1)] [] := by
  unfold f_X10_reachesMore at h
  refine g_iconst (v := (0 : Int32)) C dX10_reachesMore_0 (by decide) ?_
  refine g_istore_n (lv' := [(2, .int (0 : Int32)), (0, .ref (oa (gw Γ) 95)), (1, .int v1)]) C dX10_reachesMore_1 rfl (by decide) rfl ?_
  refine g_iconst (v := (0 : Int32)) C dX10_reachesMore_2 (by decide) ?_
  refine g_istore_n (lv' := [(3, .int (0 : Int32)), (2, .int (0 : Int32)), (0, .ref (oa (gw Γ) 95)), (1, .int v1)]) C dX10_reachesMore_3 rfl (by decide) rfl ?_
  obtain ⟨v2_21, m_21, hx, h⟩ := l2_some h
  refine g_sub [2, 3, 1, 0] rfl ?_
  refine lt_X10_reachesMore_4 N Γ C N v1 (0 : Int32) (0 : Int32) m _ hx ?_
  intro z2 m9 e9
  cases e9
  refine g_iload_n C dX10_reachesMore_175 0 rfl rfl ?_
  obtain ⟨g_22, h⟩ := gd_some h
  obtain rfl := Option.some.inj h
  exact hE 176 _ g_22 dX10_reachesMore_176
theorem c_X10_reachesMore (N : Nat) (l : Launch) (hst : l.stackTraces = false) (w : Om) (v1 : Int32) (m : Mem) (o : Int32 × Mem) (h : f_X10_reachesMore N v1 m = some o) : KI l yX10_reachesMore cX10_reachesMore 6 (some .boolean) 3 66 w [.ref (oa w 95), .int v1] m o.1 o.2 := KZ_of hst (by decide +kernel) RX10 rfl (Nat.le_of_ble_eq_true rfl) (fun Γ hw hl C hE => by
  subst hw; subst hl
  exact t_X10_reachesMore N Γ C v1 m o h hE)
def Ex_X10_goesOn_2 (Γ : Gc) (cs : Nat) (b : Int32 × Mem) : Prop := (∀ (y1 : Int32) (m' : Mem), b = (y1, m') → G Γ 6 cs m' 29 [(0, .ref (oa (gw Γ) 95)), (1, .int y1)] [])
set_option maxRecDepth 100000 in
set_option maxHeartbeats 4000000 in
theorem t_X10_goesOn_2 (N : Nat) (Γ : Gc) (C : Cx Γ cX10_goesOn 6 RX10 (rmK 4 91 0)) (rc : Int32 → Int32 → Mem → Option (Int32 × Mem)) (b : Int32 × Mem) (hE : Ex_X10_goesOn_2 Γ 0 b) (hrec : ∀ (v1 : Int32) (v2 : Int32) (m : Mem) (b : Int32 × Mem), rc v1 v2 m = some b → Ex_X10_goesOn_2 Γ 0 b → G Γ 6 0 m 2 [(0, .ref (oa (gw Γ) 95)), (1, .int v1), (2, .int v2)] []) (v1 : Int32) (v2 : Int32) (m : Mem) (h : T_X10_goesOn_2 N rc v1 v2 m = some b) : G Γ 6 0 m 2 [(0, .ref (oa (gw Γ) 95)), (1, .int v1), (2, .int v2)] [] := by
  unfold T_X10_goesOn_2 at h
  refine g_iload_n C dX10_goesOn_2 2 rfl rfl ?_
  refine g_bipush (v := (28 : Int32)) C dX10_goesOn_3 (by decide) ?_
  refine g_icmp_ge (tgt := 29) C dX10_goesOn_5 (by decide) (fun c_4 => ?_) (fun c_4 => ?_)
  · replace h := it_t c_4 h
    obtain rfl := Option.some.inj h
    refine g_sub [0, 1] rfl ?_
    exact hE _ _ rfl
  · replace h := it_f c_4 h
    refine g_aload_n C dX10_goesOn_8 0 rfl rfl ?_
    refine g_getT (b := 102) (ci := 10) (j := 13) C dX10_goesOn_9 rfl (by decide) rfl inT_X10 (by decide) k_669 rfl rfl rfl rfl ?_
    refine g_iload_n C dX10_goesOn_12 2 rfl rfl ?_
    refine g_ldc (v := (-1000000 : Int32)) C dX10_goesOn_13 k_671 ?_
    obtain ⟨g_1, h⟩ := gd_some h
    obtain ⟨m_2, e_2, h⟩ := wr_some h
    refine g_iast C dX10_goesOn_15 (okA_of rfl rfl g_1) (G_m e_2 ?_)
    refine g_aload_n C dX10_goesOn_16 0 rfl rfl ?_
    refine g_getT (b := 103) (ci := 10) (j := 14) C dX10_goesOn_17 rfl (by decide) rfl inT_X10 (by decide) k_670 rfl rfl rfl rfl ?_
    refine g_iload_n C dX10_goesOn_20 2 rfl rfl ?_
    refine g_iconst (v := (-1 : Int32)) C dX10_goesOn_21 (by decide) ?_
    obtain ⟨m_3, e_3, h⟩ := wr_some h
    refine g_iast C dX10_goesOn_22 (okA_of rfl rfl g_1) (G_m e_3 ?_)
    refine g_iinc (q := 2) (v := v2 + (1 : Int32)) (lv' := [(2, .int (v2 + (1 : Int32))), (0, .ref (oa (gw Γ) 95)), (1, .int v1)]) C dX10_goesOn_23 rfl rfl (by decide) rfl ?_
    refine g_goto (tgt := 2) C dX10_goesOn_26 (by decide) ?_
    refine g_sub [1, 2, 0] rfl ?_
    exact hrec v1 (v2 + (1 : Int32)) m_3 b h hE
theorem lt_X10_goesOn_2 (N : Nat) (Γ : Gc) (C : Cx Γ cX10_goesOn 6 RX10 (rmK 4 91 0)) : ∀ (n : Nat) (v1 : Int32) (v2 : Int32) (m : Mem) (b : Int32 × Mem), L_X10_goesOn_2 N n v1 v2 m = some b → Ex_X10_goesOn_2 Γ 0 b → G Γ 6 0 m 2 [(0, .ref (oa (gw Γ) 95)), (1, .int v1), (2, .int v2)] [] := by
  intro n
  induction n with
  | zero =>
    intro v1 v2 m b h
    have h9 : (none : Option (Int32 × Mem)) = some b := h
    cases h9
  | succ n ih => intro v1 v2 m b h hE; exact t_X10_goesOn_2 N Γ C (L_X10_goesOn_2 N n) b hE ih v1 v2 m h
def Ex_X10_goesOn_31 (Γ : Gc) (cs : Nat) (b : Int32 × Mem) : Prop := (∀ (y1 : Int32) (m' : Mem), b = (y1, m') → G Γ 6 cs m' 83 [(0, .ref (oa (gw Γ) 95)), (1, .int y1)] [])
set_option maxRecDepth 100000 in
set_option maxHeartbeats 4000000 in
theorem t_X10_goesOn_76 (N : Nat) (Γ : Gc) (C : Cx Γ cX10_goesOn 6 RX10 (rmK 4 91 0)) (rc : Int32 → Int32 → Mem → Option (Int32 × Mem)) (b : Int32 × Mem) (hE : Ex_X10_goesOn_31 Γ 0 b) (hrec : ∀ (v1 : Int32) (v2 : Int32) (m : Mem) (b : Int32 × Mem), rc v1 v2 m = some b → Ex_X10_goesOn_31 Γ 0 b → G Γ 6 0 m 31 [(0, .ref (oa (gw Γ) 95)), (1, .int v1), (2, .int v2)] []) (v1 : Int32) (v2 : Int32) (s0 : Int32) (s1 : Int32) (m : Mem) (h : B_X10_goesOn_76 N rc v1 v2 s0 s1 m = some b) : G Γ 6 0 m 76 [(0, .ref (oa (gw Γ) 95)), (1, .int v1), (2, .int v2)] [.int s0, .int s1, .ref (oa (gw Γ) 102)] := by
  unfold B_X10_goesOn_76 at h
  obtain ⟨g_7, h⟩ := gd_some h
  obtain ⟨m_8, e_8, h⟩ := wr_some h
  refine g_iast C dX10_goesOn_76 (okA_of rfl rfl g_7) (G_m e_8 ?_)
  refine g_iinc (q := 2) (v := v2 + (1 : Int32)) (lv' := [(2, .int (v2 + (1 : Int32))), (0, .ref (oa (gw Γ) 95)), (1, .int v1)]) C dX10_goesOn_77 rfl rfl (by decide) rfl ?_
  refine g_goto (tgt := 31) C dX10_goesOn_80 (by decide) ?_
  refine g_sub [1, 2, 0] rfl ?_
  exact hrec v1 (v2 + (1 : Int32)) m_8 b h hE
set_option maxRecDepth 100000 in
set_option maxHeartbeats 4000000 in
theorem t_X10_goesOn_74 (N : Nat) (Γ : Gc) (C : Cx Γ cX10_goesOn 6 RX10 (rmK 4 91 0)) (rc : Int32 → Int32 → Mem → Option (Int32 × Mem)) (b : Int32 × Mem) (hE : Ex_X10_goesOn_31 Γ 0 b) (hrec : ∀ (v1 : Int32) (v2 : Int32) (m : Mem) (b : Int32 × Mem), rc v1 v2 m = some b → Ex_X10_goesOn_31 Γ 0 b → G Γ 6 0 m 31 [(0, .ref (oa (gw Γ) 95)), (1, .int v1), (2, .int v2)] []) (v1 : Int32) (v2 : Int32) (s0 : Int32) (m : Mem) (h : B_X10_goesOn_74 N rc v1 v2 s0 m = some b) : G Γ 6 0 m 74 [(0, .ref (oa (gw Γ) 95)), (1, .int v1), (2, .int v2)] [.int s0, .ref (oa (gw Γ) 102)] := by
  unfold B_X10_goesOn_74 at h
  refine g_ldc (v := (-1000000 : Int32)) C dX10_goesOn_74 k_671 ?_
  refine g_sub [0, 1, 2] rfl ?_
  exact t_X10_goesOn_76 N Γ C rc b hE hrec v1 v2 (-1000000 : Int32) s0 m h
set_option maxRecDepth 100000 in
set_option maxHeartbeats 4000000 in
theorem t_X10_goesOn_31 (N : Nat) (Γ : Gc) (C : Cx Γ cX10_goesOn 6 RX10 (rmK 4 91 0)) (rc : Int32 → Int32 → Mem → Option (Int32 × Mem)) (b : Int32 × Mem) (hE : Ex_X10_goesOn_31 Γ 0 b) (hrec : ∀ (v1 : Int32) (v2 : Int32) (m : Mem) (b : Int32 × Mem), rc v1 v2 m = some b → Ex_X10_goesOn_31 Γ 0 b → G Γ 6 0 m 31 [(0, .ref (oa (gw Γ) 95)), (1, .int v1), (2, .int v2)] []) (v1 : Int32) (v2 : Int32) (m : Mem) (h : T_X10_goesOn_31 N rc v1 v2 m = some b) : G Γ 6 0 m 31 [(0, .ref (oa (gw Γ) 95)), (1, .int v1), (2, .int v2)] [] := by
  unfold T_X10_goesOn_31 at h
  refine g_iload_n C dX10_goesOn_31 2 rfl rfl ?_
  refine g_aload_n C dX10_goesOn_32 0 rfl rfl ?_
  refine g_getT (b := 96) (ci := 10) (j := 1) C dX10_goesOn_33 rfl (by decide) rfl inT_X10 (by decide) k_506 rfl rfl rfl rfl ?_
  refine g_iconst (v := (2 : Int32)) C dX10_goesOn_36 (by decide) ?_
  refine g_iald' (j := 2) C dX10_goesOn_37 (okA_of rfl rfl (by decide)) (by decide) ?_
  refine g_icmp_ge (tgt := 83) C dX10_goesOn_38 (by decide) (fun c_12 => ?_) (fun c_12 => ?_)
  · replace h := it_t c_12 h
    obtain rfl := Option.some.inj h
    refine g_sub [0, 1] rfl ?_
    exact hE _ _ rfl
  · replace h := it_f c_12 h
    refine g_aload_n C dX10_goesOn_41 0 rfl rfl ?_
    refine g_getT (b := 102) (ci := 10) (j := 13) C dX10_goesOn_42 rfl (by decide) rfl inT_X10 (by decide) k_669 rfl rfl rfl rfl ?_
    refine g_iload_n C dX10_goesOn_45 2 rfl rfl ?_
    refine g_aload_n C dX10_goesOn_46 0 rfl rfl ?_
    refine g_iload_n C dX10_goesOn_47 2 rfl rfl ?_
    refine g_iconst (v := (0 : Int32)) C dX10_goesOn_48 (by decide) ?_
    obtain ⟨r_6, m_6, hk_6, h⟩ := b2_some h
    refine g_vI (As := [.int v2, .int (0 : Int32)]) (a := 95) (ci := 10) C dX10_goesOn_49 mf_X10_proposal k_609 rfl (by decide) ⟨by decide, by decide⟩ rfl rfl (Nat.le_of_ble_eq_true rfl) (by decide) rfl (c_X10_proposal N (gl Γ) C.2.2.2.2 (gw Γ) v2 (0 : Int32) m _ hk_6) ?_
    refine g_iload_n C dX10_goesOn_52 1 rfl rfl ?_
    refine g_icmp_ne (tgt := 74) C dX10_goesOn_53 (by decide) (fun c_11 => ?_) (fun c_11 => ?_)
    · replace h := it_f c_11 h
      refine g_sub [0, 1, 2] rfl ?_
      exact t_X10_goesOn_74 N Γ C rc b hE hrec v1 v2 v2 m_6 h
    · replace h := it_t c_11 h
      refine g_aload_n C dX10_goesOn_56 0 rfl rfl ?_
      refine g_iload_n C dX10_goesOn_57 2 rfl rfl ?_
      obtain ⟨r_9, m_9, hk_9, h⟩ := b2_some h
      refine g_vI (As := [.int v2]) (a := 95) (ci := 10) C dX10_goesOn_58 mf_X10_takenOf k_676 rfl (by decide) ⟨by decide, by decide⟩ rfl rfl (Nat.le_of_ble_eq_true rfl) (by decide) rfl (c_X10_takenOf N (gl Γ) C.2.2.2.2 (gw Γ) v2 m_6 _ hk_9) ?_
      refine g_aload_n C dX10_goesOn_61 0 rfl rfl ?_
      refine g_getT (b := 96) (ci := 10) (j := 1) C dX10_goesOn_62 rfl (by decide) rfl inT_X10 (by decide) k_506 rfl rfl rfl rfl ?_
      refine g_iconst (v := (3 : Int32)) C dX10_goesOn_65 (by decide) ?_
      refine g_iald' (j := 3) C dX10_goesOn_66 (okA_of rfl rfl (by decide)) (by decide) ?_
      refine g_icmp_ge (tgt := 74) C dX10_goesOn_67 (by decide) (fun c_10 => ?_) (fun c_10 => ?_)
      · replace h := it_t c_10 h
        refine g_sub [0, 1, 2] rfl ?_
        exact t_X10_goesOn_74 N Γ C rc b hE hrec v1 v2 v2 m_9 h
      · replace h := it_f c_10 h
        refine g_iconst (v := (0 : Int32)) C dX10_goesOn_70 (by decide) ?_
        refine g_goto (tgt := 76) C dX10_goesOn_71 (by decide) ?_
        refine g_sub [0, 1, 2] rfl ?_
        exact t_X10_goesOn_76 N Γ C rc b hE hrec v1 v2 (0 : Int32) v2 m_9 h
theorem lt_X10_goesOn_31 (N : Nat) (Γ : Gc) (C : Cx Γ cX10_goesOn 6 RX10 (rmK 4 91 0)) : ∀ (n : Nat) (v1 : Int32) (v2 : Int32) (m : Mem) (b : Int32 × Mem), L_X10_goesOn_31 N n v1 v2 m = some b → Ex_X10_goesOn_31 Γ 0 b → G Γ 6 0 m 31 [(0, .ref (oa (gw Γ) 95)), (1, .int v1), (2, .int v2)] [] := by
  intro n
  induction n with
  | zero =>
    intro v1 v2 m b h
    have h9 : (none : Option (Int32 × Mem)) = some b := h
    cases h9
  | succ n ih => intro v1 v2 m b h hE; exact t_X10_goesOn_31 N Γ C (L_X10_goesOn_31 N n) b hE ih v1 v2 m h
def Ex_X10_goesOn_85 (Γ : Gc) (cs : Nat) (b : Mem) : Prop := (∀  (m' : Mem), b = m' → G Γ 6 cs m' 98 [(0, .ref (oa (gw Γ) 95))] [])
set_option maxRecDepth 100000 in
set_option maxHeartbeats 4000000 in
theorem t_X10_goesOn_85 (N : Nat) (Γ : Gc) (C : Cx Γ cX10_goesOn 6 RX10 (rmK 4 91 0)) (rc : Int32 → Int32 → Mem → Option (Mem)) (b : Mem) (hE : Ex_X10_goesOn_85 Γ 0 b) (hrec : ∀ (v1 : Int32) (v2 : Int32) (m : Mem) (b : Mem), rc v1 v2 m = some b → Ex_X10_goesOn_85 Γ 0 b → G Γ 6 0 m 85 [(0, .ref (oa (gw Γ) 95)), (1, .int v1), (2, .int v2)] []) (v1 : Int32) (v2 : Int32) (m : Mem) (h : T_X10_goesOn_85 N rc v1 v2 m = some b) : G Γ 6 0 m 85 [(0, .ref (oa (gw Γ) 95)), (1, .int v1), (2, .int v2)] [] := by
  unfold T_X10_goesOn_85 at h
  refine g_iload_n C dX10_goesOn_85 2 rfl rfl ?_
  refine g_if_eq (tgt := 98) C dX10_goesOn_86 (by decide) (fun c_15 => ?_) (fun c_15 => ?_)
  · replace h := it_t c_15 h
    obtain rfl := Option.some.inj h
    refine g_sub [0] rfl ?_
    exact hE _ rfl
  · replace h := it_f c_15 h
    refine g_aload_n C dX10_goesOn_89 0 rfl rfl ?_
    refine g_iload_n C dX10_goesOn_90 1 rfl rfl ?_
    obtain ⟨r_14, m_14, hk_14, h⟩ := b2_some h
    refine g_vI (As := [.int v1]) (a := 95) (ci := 10) C dX10_goesOn_91 mf_X10_reachesMore k_680 rfl (by decide) ⟨by decide, by decide⟩ rfl rfl (Nat.le_of_ble_eq_true rfl) (by decide) rfl (c_X10_reachesMore N (gl Γ) C.2.2.2.2 (gw Γ) v1 m _ hk_14) ?_
    refine g_istore_n (lv' := [(2, .int r_14), (0, .ref (oa (gw Γ) 95)), (1, .int v1)]) C dX10_goesOn_94 rfl (by decide) rfl ?_
    refine g_goto (tgt := 85) C dX10_goesOn_95 (by decide) ?_
    refine g_sub [1, 2, 0] rfl ?_
    exact hrec v1 r_14 m_14 b h hE
theorem lt_X10_goesOn_85 (N : Nat) (Γ : Gc) (C : Cx Γ cX10_goesOn 6 RX10 (rmK 4 91 0)) : ∀ (n : Nat) (v1 : Int32) (v2 : Int32) (m : Mem) (b : Mem), L_X10_goesOn_85 N n v1 v2 m = some b → Ex_X10_goesOn_85 Γ 0 b → G Γ 6 0 m 85 [(0, .ref (oa (gw Γ) 95)), (1, .int v1), (2, .int v2)] [] := by
  intro n
  induction n with
  | zero =>
    intro v1 v2 m b h
    have h9 : (none : Option (Mem)) = some b := h
    cases h9
  | succ n ih => intro v1 v2 m b h hE; exact t_X10_goesOn_85 N Γ C (L_X10_goesOn_85 N n) b hE ih v1 v2 m h
def Ex_X10_goesOn_103 (Γ : Gc) (cs : Nat) (b : Int32 × Mem) : Prop := (∀ (y3 : Int32) (m' : Mem), b = (y3, m') → G Γ 6 cs m' 201 [(3, .int y3)] [])
set_option maxRecDepth 100000 in
set_option maxHeartbeats 4000000 in
theorem t_X10_goesOn_193 (N : Nat) (Γ : Gc) (C : Cx Γ cX10_goesOn 6 RX10 (rmK 4 91 0)) (rc : Int32 → Int32 → Mem → Option (Int32 × Mem)) (b : Int32 × Mem) (hE : Ex_X10_goesOn_103 Γ 0 b) (hrec : ∀ (v3 : Int32) (v4 : Int32) (m : Mem) (b : Int32 × Mem), rc v3 v4 m = some b → Ex_X10_goesOn_103 Γ 0 b → G Γ 6 0 m 103 [(0, .ref (oa (gw Γ) 95)), (3, .int v3), (4, .int v4)] []) (v3 : Int32) (v4 : Int32) (m : Mem) (h : B_X10_goesOn_193 N rc v3 v4 m = some b) : G Γ 6 0 m 193 [(0, .ref (oa (gw Γ) 95)), (3, .int v3), (4, .int v4)] [] := by
  unfold B_X10_goesOn_193 at h
  refine g_iload_n C dX10_goesOn_193 1 rfl rfl ?_
  refine g_istore_n (lv' := [(3, .int v3), (0, .ref (oa (gw Γ) 95)), (4, .int v4)]) C dX10_goesOn_194 rfl (by decide) rfl ?_
  refine g_iinc (q := 2) (v := v4 + (1 : Int32)) (lv' := [(4, .int (v4 + (1 : Int32))), (3, .int v3), (0, .ref (oa (gw Γ) 95))]) C dX10_goesOn_195 rfl rfl (by decide) rfl ?_
  refine g_goto (tgt := 103) C dX10_goesOn_198 (by decide) ?_
  refine g_sub [2, 1, 0] rfl ?_
  exact hrec v3 (v4 + (1 : Int32)) m b h hE
set_option maxRecDepth 100000 in
set_option maxHeartbeats 4000000 in
theorem t_X10_goesOn_188 (N : Nat) (Γ : Gc) (C : Cx Γ cX10_goesOn 6 RX10 (rmK 4 91 0)) (rc : Int32 → Int32 → Mem → Option (Int32 × Mem)) (b : Int32 × Mem) (hE : Ex_X10_goesOn_103 Γ 0 b) (hrec : ∀ (v3 : Int32) (v4 : Int32) (m : Mem) (b : Int32 × Mem), rc v3 v4 m = some b → Ex_X10_goesOn_103 Γ 0 b → G Γ 6 0 m 103 [(0, .ref (oa (gw Γ) 95)), (3, .int v3), (4, .int v4)] []) (v4 : Int32) (m : Mem) (h : B_X10_goesOn_188 N rc v4 m = some b) : G Γ 6 0 m 188 [(0, .ref (oa (gw Γ) 95)), (4, .int v4)] [] := by
  unfold B_X10_goesOn_188 at h
  refine g_iload C dX10_goesOn_188 1 rfl ?_
  refine g_goto (tgt := 194) C dX10_goesOn_190 (by decide) ?_
  refine g_istore_n (lv' := [(3, .int v4), (0, .ref (oa (gw Γ) 95)), (4, .int v4)]) C dX10_goesOn_194 rfl (by decide) rfl ?_
  refine g_iinc (q := 2) (v := v4 + (1 : Int32)) (lv' := [(4, .int (v4 + (1 : Int32))), (3, .int v4), (0, .ref (oa (gw Γ) 95))]) C dX10_goesOn_195 rfl rfl (by decide) rfl ?_
  refine g_goto (tgt := 103) C dX10_goesOn_198 (by decide) ?_
  refine g_sub [2, 1, 0] rfl ?_
  exact hrec v4 (v4 + (1 : Int32)) m b h hE
set_option maxRecDepth 100000 in
set_option maxHeartbeats 4000000 in
theorem t_X10_goesOn_154 (N : Nat) (Γ : Gc) (C : Cx Γ cX10_goesOn 6 RX10 (rmK 4 91 0)) (rc : Int32 → Int32 → Mem → Option (Int32 × Mem)) (b : Int32 × Mem) (hE : Ex_X10_goesOn_103 Γ 0 b) (hrec : ∀ (v3 : Int32) (v4 : Int32) (m : Mem) (b : Int32 × Mem), rc v3 v4 m = some b → Ex_X10_goesOn_103 Γ 0 b → G Γ 6 0 m 103 [(0, .ref (oa (gw Γ) 95)), (3, .int v3), (4, .int v4)] []) (v3 : Int32) (v4 : Int32) (s0 : Int32) (m : Mem) (h : B_X10_goesOn_154 N rc v3 v4 s0 m = some b) : G Γ 6 0 m 154 [(0, .ref (oa (gw Γ) 95)), (3, .int v3), (4, .int v4)] [.int s0] := by
  unfold B_X10_goesOn_154 at h
  refine g_istore (lv' := [(5, .int s0), (0, .ref (oa (gw Γ) 95)), (3, .int v3), (4, .int v4)]) C dX10_goesOn_154 (by decide) rfl ?_
  refine g_iload C dX10_goesOn_156 0 rfl ?_
  refine g_if_eq (tgt := 193) C dX10_goesOn_158 (by decide) (fun c_22 => ?_) (fun c_22 => ?_)
  · replace h := it_t c_22 h
    refine g_sub [1, 2, 3] rfl ?_
    exact t_X10_goesOn_193 N Γ C rc b hE hrec v3 v4 m h
  · replace h := it_f c_22 h
    refine g_iload_n C dX10_goesOn_161 2 rfl rfl ?_
    refine g_iconst (v := (-1 : Int32)) C dX10_goesOn_162 (by decide) ?_
    refine g_icmp_eq (tgt := 188) C dX10_goesOn_163 (by decide) (fun c_21 => ?_) (fun c_21 => ?_)
    · replace h := it_t c_21 h
      refine g_sub [1, 3] rfl ?_
      exact t_X10_goesOn_188 N Γ C rc b hE hrec v4 m h
    · replace h := it_f c_21 h
      refine g_aload_n C dX10_goesOn_166 1 rfl rfl ?_
      refine g_getT (b := 102) (ci := 10) (j := 13) C dX10_goesOn_167 rfl (by decide) rfl inT_X10 (by decide) k_669 rfl rfl rfl rfl ?_
      refine g_bipush (v := (16 : Int32)) C dX10_goesOn_170 (by decide) ?_
      refine g_iload C dX10_goesOn_172 3 rfl ?_
      refine g_iadd C dX10_goesOn_174 ?_
      obtain ⟨g_18, h⟩ := gd_some h
      refine g_iald C dX10_goesOn_175 (okA_of rfl rfl g_18) ?_
      refine g_aload_n C dX10_goesOn_176 1 rfl rfl ?_
      refine g_getT (b := 102) (ci := 10) (j := 13) C dX10_goesOn_177 rfl (by decide) rfl inT_X10 (by decide) k_669 rfl rfl rfl rfl ?_
      refine g_bipush (v := (16 : Int32)) C dX10_goesOn_180 (by decide) ?_
      refine g_iload_n C dX10_goesOn_182 2 rfl rfl ?_
      refine g_iadd C dX10_goesOn_183 ?_
      obtain ⟨g_19, h⟩ := gd_some h
      refine g_iald C dX10_goesOn_184 (okA_of rfl rfl g_19) ?_
      refine g_icmp_le (tgt := 193) C dX10_goesOn_185 (by decide) (fun c_20 => ?_) (fun c_20 => ?_)
      · replace h := it_t c_20 h
        refine g_sub [1, 2, 3] rfl ?_
        exact t_X10_goesOn_193 N Γ C rc b hE hrec v3 v4 m h
      · replace h := it_f c_20 h
        refine g_sub [1, 3] rfl ?_
        exact t_X10_goesOn_188 N Γ C rc b hE hrec v4 m h
set_option maxRecDepth 100000 in
set_option maxHeartbeats 4000000 in
theorem t_X10_goesOn_153 (N : Nat) (Γ : Gc) (C : Cx Γ cX10_goesOn 6 RX10 (rmK 4 91 0)) (rc : Int32 → Int32 → Mem → Option (Int32 × Mem)) (b : Int32 × Mem) (hE : Ex_X10_goesOn_103 Γ 0 b) (hrec : ∀ (v3 : Int32) (v4 : Int32) (m : Mem) (b : Int32 × Mem), rc v3 v4 m = some b → Ex_X10_goesOn_103 Γ 0 b → G Γ 6 0 m 103 [(0, .ref (oa (gw Γ) 95)), (3, .int v3), (4, .int v4)] []) (v3 : Int32) (v4 : Int32) (m : Mem) (h : B_X10_goesOn_153 N rc v3 v4 m = some b) : G Γ 6 0 m 153 [(0, .ref (oa (gw Γ) 95)), (3, .int v3), (4, .int v4)] [] := by
  unfold B_X10_goesOn_153 at h
  refine g_iconst (v := (0 : Int32)) C dX10_goesOn_153 (by decide) ?_
  refine g_sub [0, 1, 2] rfl ?_
  exact t_X10_goesOn_154 N Γ C rc b hE hrec v3 v4 (0 : Int32) m h
set_option maxRecDepth 100000 in
set_option maxHeartbeats 4000000 in
theorem t_X10_goesOn_103 (N : Nat) (Γ : Gc) (C : Cx Γ cX10_goesOn 6 RX10 (rmK 4 91 0)) (rc : Int32 → Int32 → Mem → Option (Int32 × Mem)) (b : Int32 × Mem) (hE : Ex_X10_goesOn_103 Γ 0 b) (hrec : ∀ (v3 : Int32) (v4 : Int32) (m : Mem) (b : Int32 × Mem), rc v3 v4 m = some b → Ex_X10_goesOn_103 Γ 0 b → G Γ 6 0 m 103 [(0, .ref (oa (gw Γ) 95)), (3, .int v3), (4, .int v4)] []) (v3 : Int32) (v4 : Int32) (m : Mem) (h : T_X10_goesOn_103 N rc v3 v4 m = some b) : G Γ 6 0 m 103 [(0, .ref (oa (gw Γ) 95)), (3, .int v3), (4, .int v4)] [] := by
  unfold T_X10_goesOn_103 at h
  refine g_iload C dX10_goesOn_103 2 rfl ?_
  refine g_aload_n C dX10_goesOn_105 0 rfl rfl ?_
  refine g_getT (b := 96) (ci := 10) (j := 1) C dX10_goesOn_106 rfl (by decide) rfl inT_X10 (by decide) k_506 rfl rfl rfl rfl ?_
  refine g_iconst (v := (1 : Int32)) C dX10_goesOn_109 (by decide) ?_
  refine g_iald' (j := 1) C dX10_goesOn_110 (okA_of rfl rfl (by decide)) (by decide) ?_
  refine g_icmp_ge (tgt := 201) C dX10_goesOn_111 (by decide) (fun c_28 => ?_) (fun c_28 => ?_)
  · replace h := it_t c_28 h
    obtain rfl := Option.some.inj h
    refine g_sub [1] rfl ?_
    exact hE _ _ rfl
  · replace h := it_f c_28 h
    refine g_aload_n C dX10_goesOn_114 0 rfl rfl ?_
    refine g_getT (b := 102) (ci := 10) (j := 13) C dX10_goesOn_115 rfl (by decide) rfl inT_X10 (by decide) k_669 rfl rfl rfl rfl ?_
    refine g_bipush (v := (16 : Int32)) C dX10_goesOn_118 (by decide) ?_
    refine g_iload C dX10_goesOn_120 2 rfl ?_
    refine g_iadd C dX10_goesOn_122 ?_
    obtain ⟨g_17, h⟩ := gd_some h
    refine g_iald C dX10_goesOn_123 (okA_of rfl rfl g_17) ?_
    refine g_ldc (v := (-1000000 : Int32)) C dX10_goesOn_124 k_671 ?_
    refine g_icmp_le (tgt := 153) C dX10_goesOn_126 (by decide) (fun c_27 => ?_) (fun c_27 => ?_)
    · replace h := it_t c_27 h
      refine g_sub [0, 1, 2] rfl ?_
      exact t_X10_goesOn_153 N Γ C rc b hE hrec v3 v4 m h
    · replace h := it_f c_27 h
      refine g_aload_n C dX10_goesOn_129 0 rfl rfl ?_
      refine g_getT (b := 101) (ci := 10) (j := 12) C dX10_goesOn_130 rfl (by decide) rfl inT_X10 (by decide) k_668 rfl rfl rfl rfl ?_
      refine g_iload C dX10_goesOn_133 2 rfl ?_
      obtain ⟨g_23, h⟩ := gd_some h
      refine g_iald C dX10_goesOn_135 (okA_of rfl rfl g_23) ?_
      obtain ⟨r_24, m_24, hk_24, h⟩ := b2_some h
      refine g_sI (As := [.int (gI m 101 v4.toNatClampNeg)]) C dX10_goesOn_136 mf_X10_bits k_598 ⟨by decide, by decide⟩ rfl rfl (Nat.le_of_ble_eq_true rfl) (by decide) (c_X10_bits N (gl Γ) C.2.2.2.2 (gw Γ) (gI m 101 v4.toNatClampNeg) m _ hk_24) ?_
      refine g_aload_n C dX10_goesOn_139 0 rfl rfl ?_
      refine g_iload C dX10_goesOn_140 2 rfl ?_
      refine g_iconst (v := (2 : Int32)) C dX10_goesOn_142 (by decide) ?_
      obtain ⟨r_25, m_25, hk_25, h⟩ := b2_some h
      refine g_vI (As := [.int v4, .int (2 : Int32)]) (a := 95) (ci := 10) C dX10_goesOn_143 mf_X10_reviewer k_605 rfl (by decide) ⟨by decide, by decide⟩ rfl rfl (Nat.le_of_ble_eq_true rfl) (by decide) rfl (c_X10_reviewer N (gl Γ) C.2.2.2.2 (gw Γ) v4 (2 : Int32) m_24 _ hk_25) ?_
      refine g_icmp_ge (tgt := 153) C dX10_goesOn_146 (by decide) (fun c_26 => ?_) (fun c_26 => ?_)
      · replace h := it_t c_26 h
        refine g_sub [0, 1, 2] rfl ?_
        exact t_X10_goesOn_153 N Γ C rc b hE hrec v3 v4 m_25 h
      · replace h := it_f c_26 h
        refine g_iconst (v := (1 : Int32)) C dX10_goesOn_149 (by decide) ?_
        refine g_goto (tgt := 154) C dX10_goesOn_150 (by decide) ?_
        refine g_sub [0, 1, 2] rfl ?_
        exact t_X10_goesOn_154 N Γ C rc b hE hrec v3 v4 (1 : Int32) m_25 h
theorem lt_X10_goesOn_103 (N : Nat) (Γ : Gc) (C : Cx Γ cX10_goesOn 6 RX10 (rmK 4 91 0)) : ∀ (n : Nat) (v3 : Int32) (v4 : Int32) (m : Mem) (b : Int32 × Mem), L_X10_goesOn_103 N n v3 v4 m = some b → Ex_X10_goesOn_103 Γ 0 b → G Γ 6 0 m 103 [(0, .ref (oa (gw Γ) 95)), (3, .int v3), (4, .int v4)] [] := by
  intro n
  induction n with
  | zero =>
    intro v3 v4 m b h
    have h9 : (none : Option (Int32 × Mem)) = some b := h
    cases h9
  | succ n ih => intro v3 v4 m b h hE; exact t_X10_goesOn_103 N Γ C (L_X10_goesOn_103 N n) b hE ih v3 v4 m h
set_option maxRecDepth 100000 in
set_option maxHeartbeats 4000000 in
theorem t_X10_goesOn (N : Nat) (Γ : Gc) (C : Cx Γ cX10_goesOn 6 RX10 (rmK 4 91 0)) (v1 : Int32) (m : Mem) (b : Int32 × Mem) (h : f_X10_goesOn N v1 m = some b) (hE : EIn Γ 6 cX10_goesOn b) : G Γ 6 0 m 0 [(0, .ref (oa (gw Γ) 95)), (1, .int v1)] [] := by
  unfold f_X10_goesOn at h
  refine g_iconst (v := (0 : Int32)) C dX10_goesOn_0 (by decide) ?_
  refine g_istore_n (lv' := [(2, .int (0 : Int32)), (0, .ref (oa (gw Γ) 95)), (1, .int v1)]) C dX10_goesOn_1 rfl (by decide) rfl ?_
  obtain ⟨v1_5, m_5, hx, h⟩ := l2_some h
  refine g_sub [1, 2, 0] rfl ?_
  refine lt_X10_goesOn_2 N Γ C N v1 (0 : Int32) m _ hx ?_
  intro z1 m9 e9
  cases e9
  refine g_iconst (v := (0 : Int32)) C dX10_goesOn_29 (by decide) ?_
  refine g_istore_n (lv' := [(2, .int (0 : Int32)), (0, .ref (oa (gw Γ) 95)), (1, .int v1_5)]) C dX10_goesOn_30 rfl (by decide) rfl ?_
  obtain ⟨v1_13, m_13, hx, h⟩ := l2_some h
  refine g_sub [1, 2, 0] rfl ?_
  refine lt_X10_goesOn_31 N Γ C N v1_5 (0 : Int32) m_5 _ hx ?_
  intro z1 m9 e9
  cases e9
  refine g_iconst (v := (1 : Int32)) C dX10_goesOn_83 (by decide) ?_
  refine g_istore_n (lv' := [(2, .int (1 : Int32)), (0, .ref (oa (gw Γ) 95)), (1, .int v1_13)]) C dX10_goesOn_84 rfl (by decide) rfl ?_
  obtain ⟨m_16, hx, h⟩ := l1_some h
  refine g_sub [1, 2, 0] rfl ?_
  refine lt_X10_goesOn_85 N Γ C N v1_13 (1 : Int32) m_13 _ hx ?_
  intro  m9 e9
  cases e9
  refine g_iconst (v := (-1 : Int32)) C dX10_goesOn_98 (by decide) ?_
  refine g_istore_n (lv' := [(3, .int (-1 : Int32)), (0, .ref (oa (gw Γ) 95))]) C dX10_goesOn_99 rfl (by decide) rfl ?_
  refine g_iconst (v := (0 : Int32)) C dX10_goesOn_100 (by decide) ?_
  refine g_istore (lv' := [(4, .int (0 : Int32)), (3, .int (-1 : Int32)), (0, .ref (oa (gw Γ) 95))]) C dX10_goesOn_101 (by decide) rfl ?_
  obtain ⟨v3_29, m_29, hx, h⟩ := l2_some h
  refine g_sub [2, 1, 0] rfl ?_
  refine lt_X10_goesOn_103 N Γ C N (-1 : Int32) (0 : Int32) m_16 _ hx ?_
  intro z3 m9 e9
  cases e9
  refine g_iload_n C dX10_goesOn_201 0 rfl rfl ?_
  obtain rfl := Option.some.inj h
  exact hE 202 _ dX10_goesOn_202
theorem c_X10_goesOn (N : Nat) (l : Launch) (hst : l.stackTraces = false) (w : Om) (v1 : Int32) (m : Mem) (o : Int32 × Mem) (h : f_X10_goesOn N v1 m = some o) : KI l yX10_goesOn cX10_goesOn 6 (some .int) 4 91 w [.ref (oa w 95), .int v1] m o.1 o.2 := KI_of hst (by decide +kernel) RX10 rfl (Nat.le_of_ble_eq_true rfl) (fun Γ hw hl C hE => by
  subst hw; subst hl
  exact t_X10_goesOn N Γ C v1 m o h hE)
def Ex_X10_finds_2 (Γ : Gc) (cs : Nat) (b : Int32 × Mem) : Prop := (∀ (y1 : Int32) (m' : Mem), b = (y1, m') → G Γ 5 cs m' 21 [(0, .ref (oa (gw Γ) 95)), (1, .int y1)] [])
set_option maxRecDepth 100000 in
set_option maxHeartbeats 4000000 in
theorem t_X10_finds_2 (N : Nat) (Γ : Gc) (C : Cx Γ cX10_finds 5 RX10 (rmK 5 116 0)) (rc : Int32 → Int32 → Mem → Option (Int32 × Mem)) (b : Int32 × Mem) (hE : Ex_X10_finds_2 Γ 0 b) (hrec : ∀ (v1 : Int32) (v2 : Int32) (m : Mem) (b : Int32 × Mem), rc v1 v2 m = some b → Ex_X10_finds_2 Γ 0 b → G Γ 5 0 m 2 [(0, .ref (oa (gw Γ) 95)), (1, .int v1), (2, .int v2)] []) (v1 : Int32) (v2 : Int32) (m : Mem) (h : T_X10_finds_2 N rc v1 v2 m = some b) : G Γ 5 0 m 2 [(0, .ref (oa (gw Γ) 95)), (1, .int v1), (2, .int v2)] [] := by
  unfold T_X10_finds_2 at h
  refine g_iload_n C dX10_finds_2 2 rfl rfl ?_
  refine g_bipush (v := (12 : Int32)) C dX10_finds_3 (by decide) ?_
  refine g_icmp_ge (tgt := 21) C dX10_finds_5 (by decide) (fun c_3 => ?_) (fun c_3 => ?_)
  · replace h := it_t c_3 h
    obtain rfl := Option.some.inj h
    refine g_sub [0, 1] rfl ?_
    exact hE _ _ rfl
  · replace h := it_f c_3 h
    refine g_aload_n C dX10_finds_8 0 rfl rfl ?_
    refine g_getT (b := 101) (ci := 10) (j := 12) C dX10_finds_9 rfl (by decide) rfl inT_X10 (by decide) k_668 rfl rfl rfl rfl ?_
    refine g_iload_n C dX10_finds_12 2 rfl rfl ?_
    refine g_iconst (v := (0 : Int32)) C dX10_finds_13 (by decide) ?_
    obtain ⟨g_1, h⟩ := gd_some h
    obtain ⟨m_2, e_2, h⟩ := wr_some h
    refine g_iast C dX10_finds_14 (okA_of rfl rfl g_1) (G_m e_2 ?_)
    refine g_iinc (q := 2) (v := v2 + (1 : Int32)) (lv' := [(2, .int (v2 + (1 : Int32))), (0, .ref (oa (gw Γ) 95)), (1, .int v1)]) C dX10_finds_15 rfl rfl (by decide) rfl ?_
    refine g_goto (tgt := 2) C dX10_finds_18 (by decide) ?_
    refine g_sub [1, 2, 0] rfl ?_
    exact hrec v1 (v2 + (1 : Int32)) m_2 b h hE
theorem lt_X10_finds_2 (N : Nat) (Γ : Gc) (C : Cx Γ cX10_finds 5 RX10 (rmK 5 116 0)) : ∀ (n : Nat) (v1 : Int32) (v2 : Int32) (m : Mem) (b : Int32 × Mem), L_X10_finds_2 N n v1 v2 m = some b → Ex_X10_finds_2 Γ 0 b → G Γ 5 0 m 2 [(0, .ref (oa (gw Γ) 95)), (1, .int v1), (2, .int v2)] [] := by
  intro n
  induction n with
  | zero =>
    intro v1 v2 m b h
    have h9 : (none : Option (Int32 × Mem)) = some b := h
    cases h9
  | succ n ih => intro v1 v2 m b h hE; exact t_X10_finds_2 N Γ C (L_X10_finds_2 N n) b hE ih v1 v2 m h
def Ex_X10_finds_75 (Γ : Gc) (cs : Nat) (b : Int32 × Mem) : Prop := (∀ (y1 : Int32) (m' : Mem), b = (y1, m') → G Γ 5 cs m' 136 [(0, .ref (oa (gw Γ) 95)), (1, .int y1)] [])
set_option maxRecDepth 100000 in
set_option maxHeartbeats 4000000 in
theorem t_X10_finds_127 (N : Nat) (Γ : Gc) (C : Cx Γ cX10_finds 5 RX10 (rmK 5 116 0)) (rc : Int32 → Int32 → Mem → Option (Int32 × Mem)) (b : Int32 × Mem) (hE : Ex_X10_finds_75 Γ 0 b) (hrec : ∀ (v1 : Int32) (v3 : Int32) (m : Mem) (b : Int32 × Mem), rc v1 v3 m = some b → Ex_X10_finds_75 Γ 0 b → G Γ 5 0 m 75 [(0, .ref (oa (gw Γ) 95)), (1, .int v1), (3, .int v3)] []) (v1 : Int32) (v4 : Int32) (s0 : Int32) (s1 : Int32) (s2 : Int32) (s3 : Int32) (m : Mem) (h : B_X10_finds_127 N rc v1 v4 s0 s1 s2 s3 m = some b) : G Γ 5 0 m 127 [(0, .ref (oa (gw Γ) 95)), (1, .int v1), (4, .int v4)] [.int s0, .int s1, .int s2, .int s3, .ref (oa (gw Γ) 101)] := by
  unfold B_X10_finds_127 at h
  refine g_ishl C dX10_finds_127 ?_
  refine g_ixor C dX10_finds_128 ?_
  obtain ⟨g_13, h⟩ := gd_some h
  obtain ⟨m_14, e_14, h⟩ := wr_some h
  refine g_iast C dX10_finds_129 (okA_of rfl rfl g_13) (G_m e_14 ?_)
  refine g_iload C dX10_finds_130 2 rfl ?_
  refine g_istore_n (lv' := [(3, .int v4), (0, .ref (oa (gw Γ) 95)), (1, .int v1), (4, .int v4)]) C dX10_finds_132 rfl (by decide) rfl ?_
  refine g_goto (tgt := 75) C dX10_finds_133 (by decide) ?_
  refine g_sub [1, 2, 0] rfl ?_
  exact hrec v1 v4 m_14 b h hE
set_option maxRecDepth 100000 in
set_option maxHeartbeats 4000000 in
theorem t_X10_finds_109 (N : Nat) (Γ : Gc) (C : Cx Γ cX10_finds 5 RX10 (rmK 5 116 0)) (rc : Int32 → Int32 → Mem → Option (Int32 × Mem)) (b : Int32 × Mem) (hE : Ex_X10_finds_75 Γ 0 b) (hrec : ∀ (v1 : Int32) (v3 : Int32) (m : Mem) (b : Int32 × Mem), rc v1 v3 m = some b → Ex_X10_finds_75 Γ 0 b → G Γ 5 0 m 75 [(0, .ref (oa (gw Γ) 95)), (1, .int v1), (3, .int v3)] []) (v1 : Int32) (v3 : Int32) (v4 : Int32) (s0 : Int32) (m : Mem) (h : B_X10_finds_109 N rc v1 v3 v4 s0 m = some b) : G Γ 5 0 m 109 [(0, .ref (oa (gw Γ) 95)), (1, .int v1), (3, .int v3), (4, .int v4)] [.int s0, .ref (oa (gw Γ) 101)] := by
  unfold B_X10_finds_109 at h
  refine g_bipush (v := (16 : Int32)) C dX10_finds_109 (by decide) ?_
  refine g_isub C dX10_finds_111 ?_
  refine g_dup2 C dX10_finds_112 rfl rfl ?_
  obtain ⟨g_12, h⟩ := gd_some h
  refine g_iald C dX10_finds_113 (okA_of rfl rfl g_12) ?_
  refine g_iconst (v := (1 : Int32)) C dX10_finds_114 (by decide) ?_
  refine g_iload_n C dX10_finds_115 2 rfl rfl ?_
  refine g_bipush (v := (16 : Int32)) C dX10_finds_116 (by decide) ?_
  refine g_icmp_ge (tgt := 125) C dX10_finds_118 (by decide) (fun c_15 => ?_) (fun c_15 => ?_)
  · replace h := it_t c_15 h
    refine g_iload C dX10_finds_125 3 rfl ?_
    refine g_sub [0, 1, 3] rfl ?_
    exact t_X10_finds_127 N Γ C rc b hE hrec v1 v4 v4 (1 : Int32) (gI m 101 (s0 - (16 : Int32)).toNatClampNeg) (s0 - (16 : Int32)) m h
  · replace h := it_f c_15 h
    refine g_iload_n C dX10_finds_121 2 rfl rfl ?_
    refine g_goto (tgt := 127) C dX10_finds_122 (by decide) ?_
    refine g_sub [0, 1, 3] rfl ?_
    exact t_X10_finds_127 N Γ C rc b hE hrec v1 v4 v3 (1 : Int32) (gI m 101 (s0 - (16 : Int32)).toNatClampNeg) (s0 - (16 : Int32)) m h
set_option maxRecDepth 100000 in
set_option maxHeartbeats 4000000 in
theorem t_X10_finds_75 (N : Nat) (Γ : Gc) (C : Cx Γ cX10_finds 5 RX10 (rmK 5 116 0)) (rc : Int32 → Int32 → Mem → Option (Int32 × Mem)) (b : Int32 × Mem) (hE : Ex_X10_finds_75 Γ 0 b) (hrec : ∀ (v1 : Int32) (v3 : Int32) (m : Mem) (b : Int32 × Mem), rc v1 v3 m = some b → Ex_X10_finds_75 Γ 0 b → G Γ 5 0 m 75 [(0, .ref (oa (gw Γ) 95)), (1, .int v1), (3, .int v3)] []) (v1 : Int32) (v3 : Int32) (m : Mem) (h : T_X10_finds_75 N rc v1 v3 m = some b) : G Γ 5 0 m 75 [(0, .ref (oa (gw Γ) 95)), (1, .int v1), (3, .int v3)] [] := by
  unfold T_X10_finds_75 at h
  refine g_aload_n C dX10_finds_75 0 rfl rfl ?_
  refine g_getT (b := 103) (ci := 10) (j := 14) C dX10_finds_76 rfl (by decide) rfl inT_X10 (by decide) k_670 rfl rfl rfl rfl ?_
  refine g_iload_n C dX10_finds_79 2 rfl rfl ?_
  obtain ⟨g_11, h⟩ := gd_some h
  refine g_iald C dX10_finds_80 (okA_of rfl rfl g_11) ?_
  refine g_iconst (v := (-1 : Int32)) C dX10_finds_81 (by decide) ?_
  refine g_icmp_eq (tgt := 136) C dX10_finds_82 (by decide) (fun c_17 => ?_) (fun c_17 => ?_)
  · replace h := it_t c_17 h
    obtain rfl := Option.some.inj h
    refine g_sub [0, 1] rfl ?_
    exact hE _ _ rfl
  · replace h := it_f c_17 h
    refine g_aload_n C dX10_finds_85 0 rfl rfl ?_
    refine g_getT (b := 103) (ci := 10) (j := 14) C dX10_finds_86 rfl (by decide) rfl inT_X10 (by decide) k_670 rfl rfl rfl rfl ?_
    refine g_iload_n C dX10_finds_89 2 rfl rfl ?_
    refine g_iald C dX10_finds_90 (okA_of rfl rfl g_11) ?_
    refine g_istore (lv' := [(4, .int (gI m 103 v3.toNatClampNeg)), (0, .ref (oa (gw Γ) 95)), (1, .int v1), (3, .int v3)]) C dX10_finds_91 (by decide) rfl ?_
    refine g_aload_n C dX10_finds_93 1 rfl rfl ?_
    refine g_getT (b := 101) (ci := 10) (j := 12) C dX10_finds_94 rfl (by decide) rfl inT_X10 (by decide) k_668 rfl rfl rfl rfl ?_
    refine g_iload_n C dX10_finds_97 3 rfl rfl ?_
    refine g_bipush (v := (16 : Int32)) C dX10_finds_98 (by decide) ?_
    refine g_icmp_ge (tgt := 108) C dX10_finds_100 (by decide) (fun c_16 => ?_) (fun c_16 => ?_)
    · replace h := it_t c_16 h
      refine g_iload_n C dX10_finds_108 3 rfl rfl ?_
      refine g_sub [1, 2, 3, 0] rfl ?_
      exact t_X10_finds_109 N Γ C rc b hE hrec v1 v3 (gI m 103 v3.toNatClampNeg) v3 m h
    · replace h := it_f c_16 h
      refine g_iload C dX10_finds_103 0 rfl ?_
      refine g_goto (tgt := 109) C dX10_finds_105 (by decide) ?_
      refine g_sub [1, 2, 3, 0] rfl ?_
      exact t_X10_finds_109 N Γ C rc b hE hrec v1 v3 (gI m 103 v3.toNatClampNeg) (gI m 103 v3.toNatClampNeg) m h
theorem lt_X10_finds_75 (N : Nat) (Γ : Gc) (C : Cx Γ cX10_finds 5 RX10 (rmK 5 116 0)) : ∀ (n : Nat) (v1 : Int32) (v3 : Int32) (m : Mem) (b : Int32 × Mem), L_X10_finds_75 N n v1 v3 m = some b → Ex_X10_finds_75 Γ 0 b → G Γ 5 0 m 75 [(0, .ref (oa (gw Γ) 95)), (1, .int v1), (3, .int v3)] [] := by
  intro n
  induction n with
  | zero =>
    intro v1 v3 m b h
    have h9 : (none : Option (Int32 × Mem)) = some b := h
    cases h9
  | succ n ih => intro v1 v3 m b h hE; exact t_X10_finds_75 N Γ C (L_X10_finds_75 N n) b hE ih v1 v3 m h
def Ex_X10_finds_37 (Γ : Gc) (cs : Nat) (b : Mem) : Prop := (∀  (m' : Mem), b = m' → G Γ 5 cs m' 145 [] [])
set_option maxRecDepth 100000 in
set_option maxHeartbeats 4000000 in
theorem t_X10_finds_37 (N : Nat) (Γ : Gc) (C : Cx Γ cX10_finds 5 RX10 (rmK 5 116 0)) (rc : Int32 → Int32 → Mem → Option (Mem)) (b : Mem) (hE : Ex_X10_finds_37 Γ 0 b) (hrec : ∀ (v1 : Int32) (v2 : Int32) (m : Mem) (b : Mem), rc v1 v2 m = some b → Ex_X10_finds_37 Γ 0 b → G Γ 5 0 m 37 [(0, .ref (oa (gw Γ) 95)), (1, .int v1), (2, .int v2)] []) (v1 : Int32) (v2 : Int32) (m : Mem) (h : T_X10_finds_37 N rc v1 v2 m = some b) : G Γ 5 0 m 37 [(0, .ref (oa (gw Γ) 95)), (1, .int v1), (2, .int v2)] [] := by
  unfold T_X10_finds_37 at h
  refine g_iload_n C dX10_finds_37 2 rfl rfl ?_
  refine g_iconst (v := (-1 : Int32)) C dX10_finds_38 (by decide) ?_
  refine g_icmp_eq (tgt := 145) C dX10_finds_39 (by decide) (fun c_20 => ?_) (fun c_20 => ?_)
  · replace h := it_t c_20 h
    obtain rfl := Option.some.inj h
    refine g_sub [] rfl ?_
    exact hE _ rfl
  · replace h := it_f c_20 h
    refine g_aload_n C dX10_finds_42 0 rfl rfl ?_
    refine g_dup C dX10_finds_43 rfl ?_
    refine g_getI (ci := 10) (j := 15) C dX10_finds_44 rfl (by decide) rfl inT_X10 (by decide) k_684 rfl rfl ?_
    refine g_iconst (v := (1 : Int32)) C dX10_finds_47 (by decide) ?_
    refine g_iadd C dX10_finds_48 ?_
    obtain ⟨m_8, e_8, h⟩ := wr_some h
    refine g_putI (ci := 10) (j := 15) C dX10_finds_49 rfl (by decide) rfl inT_X10 (by decide) k_684 tyX10 tyX10_ok nmX10 rfl rfl rfl rfl rfl (G_m e_8 ?_)
    refine g_aload_n C dX10_finds_52 0 rfl rfl ?_
    refine g_dup C dX10_finds_53 rfl ?_
    refine g_getI (ci := 10) (j := 16) C dX10_finds_54 rfl (by decide) rfl inT_X10 (by decide) k_685 rfl rfl ?_
    refine g_aload_n C dX10_finds_57 0 rfl rfl ?_
    refine g_getT (b := 102) (ci := 10) (j := 13) C dX10_finds_58 rfl (by decide) rfl inT_X10 (by decide) k_669 rfl rfl rfl rfl ?_
    refine g_bipush (v := (16 : Int32)) C dX10_finds_61 (by decide) ?_
    refine g_iload_n C dX10_finds_63 2 rfl rfl ?_
    refine g_iadd C dX10_finds_64 ?_
    obtain ⟨g_9, h⟩ := gd_some h
    refine g_iald C dX10_finds_65 (okA_of rfl rfl g_9) ?_
    refine g_iadd C dX10_finds_66 ?_
    obtain ⟨m_10, e_10, h⟩ := wr_some h
    refine g_putI (ci := 10) (j := 16) C dX10_finds_67 rfl (by decide) rfl inT_X10 (by decide) k_685 tyX10 tyX10_ok nmX10 rfl rfl rfl rfl rfl (G_m e_10 ?_)
    refine g_bipush (v := (16 : Int32)) C dX10_finds_70 (by decide) ?_
    refine g_iload_n C dX10_finds_72 2 rfl rfl ?_
    refine g_iadd C dX10_finds_73 ?_
    refine g_istore_n (lv' := [(3, .int ((16 : Int32) + v2)), (0, .ref (oa (gw Γ) 95)), (1, .int v1), (2, .int v2)]) C dX10_finds_74 rfl (by decide) rfl ?_
    obtain ⟨v1_18, m_18, hx, h⟩ := l2_some h
    refine g_sub [1, 2, 0] rfl ?_
    refine lt_X10_finds_75 N Γ C N v1 ((16 : Int32) + v2) m_10 _ hx ?_
    intro z1 m9 e9
    cases e9
    refine g_aload_n C dX10_finds_136 0 rfl rfl ?_
    refine g_iload_n C dX10_finds_137 1 rfl rfl ?_
    obtain ⟨r_19, m_19, hk_19, h⟩ := b2_some h
    refine g_vI (As := [.int v1_18]) (a := 95) (ci := 10) C dX10_finds_138 mf_X10_goesOn k_686 rfl (by decide) ⟨by decide, by decide⟩ rfl rfl (Nat.le_of_ble_eq_true rfl) (by decide) rfl (c_X10_goesOn N (gl Γ) C.2.2.2.2 (gw Γ) v1_18 m_18 _ hk_19) ?_
    refine g_istore_n (lv' := [(2, .int r_19), (0, .ref (oa (gw Γ) 95)), (1, .int v1_18)]) C dX10_finds_141 rfl (by decide) rfl ?_
    refine g_goto (tgt := 37) C dX10_finds_142 (by decide) ?_
    refine g_sub [1, 2, 0] rfl ?_
    exact hrec v1_18 r_19 m_19 b h hE
theorem lt_X10_finds_37 (N : Nat) (Γ : Gc) (C : Cx Γ cX10_finds 5 RX10 (rmK 5 116 0)) : ∀ (n : Nat) (v1 : Int32) (v2 : Int32) (m : Mem) (b : Mem), L_X10_finds_37 N n v1 v2 m = some b → Ex_X10_finds_37 Γ 0 b → G Γ 5 0 m 37 [(0, .ref (oa (gw Γ) 95)), (1, .int v1), (2, .int v2)] [] := by
  intro n
  induction n with
  | zero =>
    intro v1 v2 m b h
    have h9 : (none : Option (Mem)) = some b := h
    cases h9
  | succ n ih => intro v1 v2 m b h hE; exact t_X10_finds_37 N Γ C (L_X10_finds_37 N n) b hE ih v1 v2 m h
set_option maxRecDepth 100000 in
set_option maxHeartbeats 4000000 in
theorem t_X10_finds (N : Nat) (Γ : Gc) (C : Cx Γ cX10_finds 5 RX10 (rmK 5 116 0)) (v1 : Int32) (m : Mem) (b : Mem) (h : f_X10_finds N v1 m = some b) (hE : EVn Γ 5 cX10_finds b) : G Γ 5 0 m 0 [(0, .ref (oa (gw Γ) 95)), (1, .int v1)] [] := by
  unfold f_X10_finds at h
  refine g_iconst (v := (0 : Int32)) C dX10_finds_0 (by decide) ?_
  refine g_istore_n (lv' := [(2, .int (0 : Int32)), (0, .ref (oa (gw Γ) 95)), (1, .int v1)]) C dX10_finds_1 rfl (by decide) rfl ?_
  obtain ⟨v1_4, m_4, hx, h⟩ := l2_some h
  refine g_sub [1, 2, 0] rfl ?_
  refine lt_X10_finds_2 N Γ C N v1 (0 : Int32) m _ hx ?_
  intro z1 m9 e9
  cases e9
  refine g_aload_n C dX10_finds_21 0 rfl rfl ?_
  refine g_iconst (v := (0 : Int32)) C dX10_finds_22 (by decide) ?_
  obtain ⟨m_5, e_5, h⟩ := wr_some h
  refine g_putI (ci := 10) (j := 15) C dX10_finds_23 rfl (by decide) rfl inT_X10 (by decide) k_684 tyX10 tyX10_ok nmX10 rfl rfl rfl rfl rfl (G_m e_5 ?_)
  refine g_aload_n C dX10_finds_26 0 rfl rfl ?_
  refine g_iconst (v := (0 : Int32)) C dX10_finds_27 (by decide) ?_
  obtain ⟨m_6, e_6, h⟩ := wr_some h
  refine g_putI (ci := 10) (j := 16) C dX10_finds_28 rfl (by decide) rfl inT_X10 (by decide) k_685 tyX10 tyX10_ok nmX10 rfl rfl rfl rfl rfl (G_m e_6 ?_)
  refine g_aload_n C dX10_finds_31 0 rfl rfl ?_
  refine g_iload_n C dX10_finds_32 1 rfl rfl ?_
  obtain ⟨r_7, m_7, hk_7, h⟩ := b2_some h
  refine g_vI (As := [.int v1_4]) (a := 95) (ci := 10) C dX10_finds_33 mf_X10_goesOn k_686 rfl (by decide) ⟨by decide, by decide⟩ rfl rfl (Nat.le_of_ble_eq_true rfl) (by decide) rfl (c_X10_goesOn N (gl Γ) C.2.2.2.2 (gw Γ) v1_4 m_6 _ hk_7) ?_
  refine g_istore_n (lv' := [(2, .int r_7), (0, .ref (oa (gw Γ) 95)), (1, .int v1_4)]) C dX10_finds_36 rfl (by decide) rfl ?_
  obtain ⟨m_21, hx, h⟩ := l1_some h
  refine g_sub [1, 2, 0] rfl ?_
  refine lt_X10_finds_37 N Γ C N v1_4 r_7 m_7 _ hx ?_
  intro  m9 e9
  cases e9
  obtain rfl := Option.some.inj h
  exact hE 145 _ dX10_finds_145
theorem c_X10_finds (N : Nat) (l : Launch) (hst : l.stackTraces = false) (w : Om) (v1 : Int32) (m : Mem) (o : Mem) (h : f_X10_finds N v1 m = some o) : KV l yX10_finds cX10_finds 5 none 5 116 w [.ref (oa w 95), .int v1] m o := KV_of hst (by decide +kernel) RX10 rfl (Nat.le_of_ble_eq_true rfl) (fun Γ hw hl C hE => by
  subst hw; subst hl
  exact t_X10_finds N Γ C v1 m o h hE)
set_option maxRecDepth 100000 in
set_option maxHeartbeats 4000000 in
theorem t_X10_mostReviews_14 (N : Nat) (Γ : Gc) (C : Cx Γ cX10_mostReviews 2 RX10 (rmK 6 140 0)) (b : Int32 × Mem) (hE : EIn Γ 2 cX10_mostReviews b) (v1 : Int32) (s0 : Int32) (m : Mem) (h : B_X10_mostReviews_14 N v1 s0 m = some b) : G Γ 2 0 m 14 [(0, .ref (oa (gw Γ) 95)), (1, .int v1)] [.int s0, .ref (oa (gw Γ) 95)] := by
  unfold B_X10_mostReviews_14 at h
  obtain ⟨m_2, e_2, h⟩ := wr_some h
  refine g_putI (ci := 10) (j := 0) C dX10_mostReviews_14 rfl (by decide) rfl inT_X10 (by decide) k_505 tyX10 tyX10_ok nmX10 rfl rfl rfl rfl rfl (G_m e_2 ?_)
  refine g_aload_n C dX10_mostReviews_17 0 rfl rfl ?_
  refine g_getI (ci := 10) (j := 0) C dX10_mostReviews_18 rfl (by decide) rfl inT_X10 (by decide) k_505 rfl rfl ?_
  refine g_if_le (tgt := 26) C dX10_mostReviews_21 (by decide) (fun c_4 => ?_) (fun c_4 => ?_)
  · replace h := it_t c_4 h
    refine g_aload_n C dX10_mostReviews_26 0 rfl rfl ?_
    refine g_iload_n C dX10_mostReviews_27 1 rfl rfl ?_
    obtain ⟨m_3, hk_3, h⟩ := b1_some h
    refine g_vV (As := [.int v1]) (a := 95) (ci := 10) C dX10_mostReviews_28 mf_X10_finds k_690 rfl (by decide) ⟨by decide, by decide⟩ rfl rfl (Nat.le_of_ble_eq_true rfl) (by decide) rfl (c_X10_finds N (gl Γ) C.2.2.2.2 (gw Γ) v1 m_2 _ hk_3) ?_
    refine g_aload_n C dX10_mostReviews_31 0 rfl rfl ?_
    refine g_getI (ci := 10) (j := 15) C dX10_mostReviews_32 rfl (by decide) rfl inT_X10 (by decide) k_684 rfl rfl ?_
    obtain rfl := Option.some.inj h
    exact hE 35 _ dX10_mostReviews_35
  · replace h := it_f c_4 h
    refine g_iconst (v := (0 : Int32)) C dX10_mostReviews_24 (by decide) ?_
    obtain rfl := Option.some.inj h
    exact hE 25 _ dX10_mostReviews_25
set_option maxRecDepth 100000 in
set_option maxHeartbeats 4000000 in
theorem t_X10_mostReviews (N : Nat) (Γ : Gc) (C : Cx Γ cX10_mostReviews 2 RX10 (rmK 6 140 0)) (v1 : Int32) (m : Mem) (b : Int32 × Mem) (h : f_X10_mostReviews N v1 m = some b) (hE : EIn Γ 2 cX10_mostReviews b) : G Γ 2 0 m 0 [(0, .ref (oa (gw Γ) 95)), (1, .int v1)] [] := by
  unfold f_X10_mostReviews at h
  refine g_aload_n C dX10_mostReviews_0 0 rfl rfl ?_
  refine g_aload_n C dX10_mostReviews_1 0 rfl rfl ?_
  refine g_iload_n C dX10_mostReviews_2 1 rfl rfl ?_
  obtain ⟨r_1, m_1, hk_1, h⟩ := b2_some h
  refine g_vI (As := [.int v1]) (a := 95) (ci := 10) C dX10_mostReviews_3 mf_X10_isPanel k_660 rfl (by decide) ⟨by decide, by decide⟩ rfl rfl (Nat.le_of_ble_eq_true rfl) (by decide) rfl (c_X10_isPanel N (gl Γ) C.2.2.2.2 (gw Γ) v1 m _ hk_1) ?_
  refine g_if_eq (tgt := 13) C dX10_mostReviews_6 (by decide) (fun c_5 => ?_) (fun c_5 => ?_)
  · replace h := it_t c_5 h
    refine g_iconst (v := (1 : Int32)) C dX10_mostReviews_13 (by decide) ?_
    refine g_sub [0, 1] rfl ?_
    exact t_X10_mostReviews_14 N Γ C b hE v1 (1 : Int32) m_1 h
  · replace h := it_f c_5 h
    refine g_iconst (v := (0 : Int32)) C dX10_mostReviews_9 (by decide) ?_
    refine g_goto (tgt := 14) C dX10_mostReviews_10 (by decide) ?_
    refine g_sub [0, 1] rfl ?_
    exact t_X10_mostReviews_14 N Γ C b hE v1 (0 : Int32) m_1 h
theorem c_X10_mostReviews (N : Nat) (l : Launch) (hst : l.stackTraces = false) (w : Om) (v1 : Int32) (m : Mem) (o : Int32 × Mem) (h : f_X10_mostReviews N v1 m = some o) : KI l yX10_mostReviews cX10_mostReviews 2 (some .int) 6 140 w [.ref (oa w 95), .int v1] m o.1 o.2 := KI_of hst (by decide +kernel) RX10 rfl (Nat.le_of_ble_eq_true rfl) (fun Γ hw hl C hE => by
  subst hw; subst hl
  exact t_X10_mostReviews N Γ C v1 m o h hE)
set_option maxRecDepth 100000 in
set_option maxHeartbeats 4000000 in
theorem t_X10_bestMatchSum_14 (N : Nat) (Γ : Gc) (C : Cx Γ cX10_bestMatchSum 2 RX10 (rmK 6 140 0)) (b : Int32 × Mem) (hE : EIn Γ 2 cX10_bestMatchSum b) (v1 : Int32) (s0 : Int32) (m : Mem) (h : B_X10_bestMatchSum_14 N v1 s0 m = some b) : G Γ 2 0 m 14 [(0, .ref (oa (gw Γ) 95)), (1, .int v1)] [.int s0, .ref (oa (gw Γ) 95)] := by
  unfold B_X10_bestMatchSum_14 at h
  obtain ⟨m_2, e_2, h⟩ := wr_some h
  refine g_putI (ci := 10) (j := 0) C dX10_bestMatchSum_14 rfl (by decide) rfl inT_X10 (by decide) k_505 tyX10 tyX10_ok nmX10 rfl rfl rfl rfl rfl (G_m e_2 ?_)
  refine g_aload_n C dX10_bestMatchSum_17 0 rfl rfl ?_
  refine g_getI (ci := 10) (j := 0) C dX10_bestMatchSum_18 rfl (by decide) rfl inT_X10 (by decide) k_505 rfl rfl ?_
  refine g_if_le (tgt := 26) C dX10_bestMatchSum_21 (by decide) (fun c_4 => ?_) (fun c_4 => ?_)
  · replace h := it_t c_4 h
    refine g_aload_n C dX10_bestMatchSum_26 0 rfl rfl ?_
    refine g_iload_n C dX10_bestMatchSum_27 1 rfl rfl ?_
    obtain ⟨m_3, hk_3, h⟩ := b1_some h
    refine g_vV (As := [.int v1]) (a := 95) (ci := 10) C dX10_bestMatchSum_28 mf_X10_finds k_690 rfl (by decide) ⟨by decide, by decide⟩ rfl rfl (Nat.le_of_ble_eq_true rfl) (by decide) rfl (c_X10_finds N (gl Γ) C.2.2.2.2 (gw Γ) v1 m_2 _ hk_3) ?_
    refine g_aload_n C dX10_bestMatchSum_31 0 rfl rfl ?_
    refine g_getI (ci := 10) (j := 16) C dX10_bestMatchSum_32 rfl (by decide) rfl inT_X10 (by decide) k_685 rfl rfl ?_
    obtain rfl := Option.some.inj h
    exact hE 35 _ dX10_bestMatchSum_35
  · replace h := it_f c_4 h
    refine g_iconst (v := (0 : Int32)) C dX10_bestMatchSum_24 (by decide) ?_
    obtain rfl := Option.some.inj h
    exact hE 25 _ dX10_bestMatchSum_25
set_option maxRecDepth 100000 in
set_option maxHeartbeats 4000000 in
theorem t_X10_bestMatchSum (N : Nat) (Γ : Gc) (C : Cx Γ cX10_bestMatchSum 2 RX10 (rmK 6 140 0)) (v1 : Int32) (m : Mem) (b : Int32 × Mem) (h : f_X10_bestMatchSum N v1 m = some b) (hE : EIn Γ 2 cX10_bestMatchSum b) : G Γ 2 0 m 0 [(0, .ref (oa (gw Γ) 95)), (1, .int v1)] [] := by
  unfold f_X10_bestMatchSum at h
  refine g_aload_n C dX10_bestMatchSum_0 0 rfl rfl ?_
  refine g_aload_n C dX10_bestMatchSum_1 0 rfl rfl ?_
  refine g_iload_n C dX10_bestMatchSum_2 1 rfl rfl ?_
  obtain ⟨r_1, m_1, hk_1, h⟩ := b2_some h
  refine g_vI (As := [.int v1]) (a := 95) (ci := 10) C dX10_bestMatchSum_3 mf_X10_isPanel k_660 rfl (by decide) ⟨by decide, by decide⟩ rfl rfl (Nat.le_of_ble_eq_true rfl) (by decide) rfl (c_X10_isPanel N (gl Γ) C.2.2.2.2 (gw Γ) v1 m _ hk_1) ?_
  refine g_if_eq (tgt := 13) C dX10_bestMatchSum_6 (by decide) (fun c_5 => ?_) (fun c_5 => ?_)
  · replace h := it_t c_5 h
    refine g_iconst (v := (1 : Int32)) C dX10_bestMatchSum_13 (by decide) ?_
    refine g_sub [0, 1] rfl ?_
    exact t_X10_bestMatchSum_14 N Γ C b hE v1 (1 : Int32) m_1 h
  · replace h := it_f c_5 h
    refine g_iconst (v := (0 : Int32)) C dX10_bestMatchSum_9 (by decide) ?_
    refine g_goto (tgt := 14) C dX10_bestMatchSum_10 (by decide) ?_
    refine g_sub [0, 1] rfl ?_
    exact t_X10_bestMatchSum_14 N Γ C b hE v1 (0 : Int32) m_1 h
theorem c_X10_bestMatchSum (N : Nat) (l : Launch) (hst : l.stackTraces = false) (w : Om) (v1 : Int32) (m : Mem) (o : Int32 × Mem) (h : f_X10_bestMatchSum N v1 m = some o) : KI l yX10_bestMatchSum cX10_bestMatchSum 2 (some .int) 6 140 w [.ref (oa w 95), .int v1] m o.1 o.2 := KI_of hst (by decide +kernel) RX10 rfl (Nat.le_of_ble_eq_true rfl) (fun Γ hw hl C hE => by
  subst hw; subst hl
  exact t_X10_bestMatchSum N Γ C v1 m o h hE)
set_option maxRecDepth 100000 in
set_option maxHeartbeats 4000000 in
theorem t_X10_setScore_82 (N : Nat) (Γ : Gc) (C : Cx Γ cX10_setScore 5 RX10 (rmK 3 65 0)) (b : Int32 × Mem) (hE : EIn Γ 5 cX10_setScore b) (v4 : Int32) (s0 : Int32) (s1 : Int32) (m : Mem) (h : B_X10_setScore_82 N v4 s0 s1 m = some b) : G Γ 5 0 m 82 [(4, .int v4)] [.int s0, .int s1, .ref (oa (gw Γ) 98)] := by
  unfold B_X10_setScore_82 at h
  obtain ⟨g_5, h⟩ := gd_some h
  obtain ⟨m_6, e_6, h⟩ := wr_some h
  refine g_iast C dX10_setScore_82 (okA_of rfl rfl g_5) (G_m e_6 ?_)
  refine g_iload C dX10_setScore_83 0 rfl ?_
  obtain ⟨r_7, m_7, hk_7, h⟩ := b2_some h
  refine g_sI (As := [.int v4]) C dX10_setScore_85 mf_X10_orNone k_657 ⟨by decide, by decide⟩ rfl rfl (Nat.le_of_ble_eq_true rfl) (by decide) (c_X10_orNone N (gl Γ) C.2.2.2.2 (gw Γ) v4 m_6 _ hk_7) ?_
  obtain rfl := Option.some.inj h
  exact hE 88 _ dX10_setScore_88
set_option maxRecDepth 100000 in
set_option maxHeartbeats 4000000 in
theorem t_X10_setScore_32 (N : Nat) (Γ : Gc) (C : Cx Γ cX10_setScore 5 RX10 (rmK 3 65 0)) (b : Int32 × Mem) (hE : EIn Γ 5 cX10_setScore b) (v1 : Int32) (v2 : Int32) (v3 : Int32) (m : Mem) (h : B_X10_setScore_32 N v1 v2 v3 m = some b) : G Γ 5 0 m 32 [(0, .ref (oa (gw Γ) 95)), (1, .int v1), (2, .int v2), (3, .int v3)] [] := by
  unfold B_X10_setScore_32 at h
  refine g_aload_n C dX10_setScore_32 0 rfl rfl ?_
  refine g_iload_n C dX10_setScore_33 1 rfl rfl ?_
  refine g_iload_n C dX10_setScore_34 2 rfl rfl ?_
  obtain ⟨r_2, m_2, hk_2, h⟩ := b2_some h
  refine g_vI (As := [.int v1, .int v2]) (a := 95) (ci := 10) C dX10_setScore_35 mf_X10_isReview k_594 rfl (by decide) ⟨by decide, by decide⟩ rfl rfl (Nat.le_of_ble_eq_true rfl) (by decide) rfl (c_X10_isReview N (gl Γ) C.2.2.2.2 (gw Γ) v1 v2 m _ hk_2) ?_
  refine g_if_ne (tgt := 47) C dX10_setScore_38 (by decide) (fun c_10 => ?_) (fun c_10 => ?_)
  · replace h := it_f c_10 h
    refine g_aload_n C dX10_setScore_47 0 rfl rfl ?_
    obtain ⟨m_3, hk_3, h⟩ := b1_some h
    refine g_vV (As := []) (a := 95) (ci := 10) C dX10_setScore_48 mf_X10_keeps k_641 rfl (by decide) ⟨by decide, by decide⟩ rfl rfl (Nat.le_of_ble_eq_true rfl) (by decide) rfl (c_X10_keeps N (gl Γ) C.2.2.2.2 (gw Γ)  m_2 _ hk_3) ?_
    refine g_aload_n C dX10_setScore_51 0 rfl rfl ?_
    refine g_iload_n C dX10_setScore_52 1 rfl rfl ?_
    refine g_iload_n C dX10_setScore_53 2 rfl rfl ?_
    obtain ⟨r_4, m_4, hk_4, h⟩ := b2_some h
    refine g_vI (As := [.int v1, .int v2]) (a := 95) (ci := 10) C dX10_setScore_54 mf_X10_score k_601 rfl (by decide) ⟨by decide, by decide⟩ rfl rfl (Nat.le_of_ble_eq_true rfl) (by decide) rfl (c_X10_score N (gl Γ) C.2.2.2.2 (gw Γ) v1 v2 m_3 _ hk_4) ?_
    refine g_istore (lv' := [(4, .int r_4), (0, .ref (oa (gw Γ) 95)), (1, .int v1), (2, .int v2), (3, .int v3)]) C dX10_setScore_57 (by decide) rfl ?_
    refine g_aload_n C dX10_setScore_59 1 rfl rfl ?_
    refine g_getT (b := 98) (ci := 10) (j := 3) C dX10_setScore_60 rfl (by decide) rfl inT_X10 (by decide) k_588 rfl rfl rfl rfl ?_
    refine g_bipush (v := (26 : Int32)) C dX10_setScore_63 (by decide) ?_
    refine g_bipush (v := (16 : Int32)) C dX10_setScore_65 (by decide) ?_
    refine g_iload_n C dX10_setScore_67 2 rfl rfl ?_
    refine g_imul C dX10_setScore_68 ?_
    refine g_iadd C dX10_setScore_69 ?_
    refine g_iload_n C dX10_setScore_70 3 rfl rfl ?_
    refine g_iadd C dX10_setScore_71 ?_
    refine g_iload_n C dX10_setScore_72 4 rfl rfl ?_
    refine g_iconst (v := (-1 : Int32)) C dX10_setScore_73 (by decide) ?_
    refine g_icmp_ne (tgt := 81) C dX10_setScore_74 (by decide) (fun c_8 => ?_) (fun c_8 => ?_)
    · replace h := it_f c_8 h
      refine g_iload_n C dX10_setScore_81 4 rfl rfl ?_
      refine g_sub [0] rfl ?_
      exact t_X10_setScore_82 N Γ C b hE r_4 v3 (((26 : Int32) + ((16 : Int32) * v1)) + v2) m_4 h
    · replace h := it_t c_8 h
      refine g_iconst (v := (0 : Int32)) C dX10_setScore_77 (by decide) ?_
      refine g_goto (tgt := 82) C dX10_setScore_78 (by decide) ?_
      refine g_sub [0] rfl ?_
      exact t_X10_setScore_82 N Γ C b hE r_4 (0 : Int32) (((26 : Int32) + ((16 : Int32) * v1)) + v2) m_4 h
  · replace h := it_t c_10 h
    refine g_aload_n C dX10_setScore_41 0 rfl rfl ?_
    refine g_iconst (v := (3 : Int32)) C dX10_setScore_42 (by decide) ?_
    obtain ⟨r_9, m_9, hk_9, h⟩ := b2_some h
    refine g_vI (As := [.int (3 : Int32)]) (a := 95) (ci := 10) C dX10_setScore_43 mf_X10_fails k_517 rfl (by decide) ⟨by decide, by decide⟩ rfl rfl (Nat.le_of_ble_eq_true rfl) (by decide) rfl (c_X10_fails N (gl Γ) C.2.2.2.2 (gw Γ) (3 : Int32) m_2 _ hk_9) ?_
    obtain rfl := Option.some.inj h
    exact hE 46 _ dX10_setScore_46
set_option maxRecDepth 100000 in
set_option maxHeartbeats 4000000 in
theorem t_X10_setScore (N : Nat) (Γ : Gc) (C : Cx Γ cX10_setScore 5 RX10 (rmK 3 65 0)) (v1 : Int32) (v2 : Int32) (v3 : Int32) (m : Mem) (b : Int32 × Mem) (h : f_X10_setScore N v1 v2 v3 m = some b) (hE : EIn Γ 5 cX10_setScore b) : G Γ 5 0 m 0 [(0, .ref (oa (gw Γ) 95)), (1, .int v1), (2, .int v2), (3, .int v3)] [] := by
  unfold f_X10_setScore at h
  refine g_aload_n C dX10_setScore_0 0 rfl rfl ?_
  refine g_iload_n C dX10_setScore_1 1 rfl rfl ?_
  refine g_iload_n C dX10_setScore_2 2 rfl rfl ?_
  obtain ⟨r_1, m_1, hk_1, h⟩ := b2_some h
  refine g_vI (As := [.int v1, .int v2]) (a := 95) (ci := 10) C dX10_setScore_3 mf_X10_areBoth k_633 rfl (by decide) ⟨by decide, by decide⟩ rfl rfl (Nat.le_of_ble_eq_true rfl) (by decide) rfl (c_X10_areBoth N (gl Γ) C.2.2.2.2 (gw Γ) v1 v2 m _ hk_1) ?_
  refine g_if_ne (tgt := 11) C dX10_setScore_6 (by decide) (fun c_15 => ?_) (fun c_15 => ?_)
  · replace h := it_f c_15 h
    refine g_iload_n C dX10_setScore_11 3 rfl rfl ?_
    refine g_iconst (v := (-1 : Int32)) C dX10_setScore_12 (by decide) ?_
    refine g_icmp_eq (tgt := 32) C dX10_setScore_13 (by decide) (fun c_14 => ?_) (fun c_14 => ?_)
    · replace h := it_t c_14 h
      refine g_sub [0, 1, 2, 3] rfl ?_
      exact t_X10_setScore_32 N Γ C b hE v1 v2 v3 m_1 h
    · replace h := it_f c_14 h
      refine g_iload_n C dX10_setScore_16 3 rfl rfl ?_
      refine g_iconst (v := (1 : Int32)) C dX10_setScore_17 (by decide) ?_
      refine g_bipush (v := (100 : Int32)) C dX10_setScore_18 (by decide) ?_
      obtain ⟨r_11, m_11, hk_11, h⟩ := b2_some h
      refine g_sI (As := [.int v3, .int (1 : Int32), .int (100 : Int32)]) C dX10_setScore_20 mf_X10_in k_507 ⟨by decide, by decide⟩ rfl rfl (Nat.le_of_ble_eq_true rfl) (by decide) (c_X10_in N (gl Γ) C.2.2.2.2 (gw Γ) v3 (1 : Int32) (100 : Int32) m_1 _ hk_11) ?_
      refine g_if_ne (tgt := 32) C dX10_setScore_23 (by decide) (fun c_13 => ?_) (fun c_13 => ?_)
      · replace h := it_f c_13 h
        refine g_sub [0, 1, 2, 3] rfl ?_
        exact t_X10_setScore_32 N Γ C b hE v1 v2 v3 m_11 h
      · replace h := it_t c_13 h
        refine g_aload_n C dX10_setScore_26 0 rfl rfl ?_
        refine g_iconst (v := (2 : Int32)) C dX10_setScore_27 (by decide) ?_
        obtain ⟨r_12, m_12, hk_12, h⟩ := b2_some h
        refine g_vI (As := [.int (2 : Int32)]) (a := 95) (ci := 10) C dX10_setScore_28 mf_X10_fails k_517 rfl (by decide) ⟨by decide, by decide⟩ rfl rfl (Nat.le_of_ble_eq_true rfl) (by decide) rfl (c_X10_fails N (gl Γ) C.2.2.2.2 (gw Γ) (2 : Int32) m_11 _ hk_12) ?_
        obtain rfl := Option.some.inj h
        exact hE 31 _ dX10_setScore_31
  · replace h := it_t c_15 h
    refine g_iconst (v := (0 : Int32)) C dX10_setScore_9 (by decide) ?_
    obtain rfl := Option.some.inj h
    exact hE 10 _ dX10_setScore_10
theorem c_X10_setScore (N : Nat) (l : Launch) (hst : l.stackTraces = false) (w : Om) (v1 : Int32) (v2 : Int32) (v3 : Int32) (m : Mem) (o : Int32 × Mem) (h : f_X10_setScore N v1 v2 v3 m = some o) : KI l yX10_setScore cX10_setScore 5 (some .int) 3 65 w [.ref (oa w 95), .int v1, .int v2, .int v3] m o.1 o.2 := KI_of hst (by decide +kernel) RX10 rfl (Nat.le_of_ble_eq_true rfl) (fun Γ hw hl C hE => by
  subst hw; subst hl
  exact t_X10_setScore N Γ C v1 v2 v3 m o h hE)
set_option maxRecDepth 100000 in
set_option maxHeartbeats 4000000 in
theorem t_X10_down (N : Nat) (Γ : Gc) (C : Cx Γ cX10_down 6 RX10 (rmK 0 0 0)) (v0 : Int64) (v2 : Int64) (m : Mem) (b : Int32 × Mem) (h : f_X10_down N v0 v2 m = some b) (hE : EIn Γ 6 cX10_down b) : G Γ 6 0 m 0 [(0, .long v0), (2, .long v2)] [] := by
  unfold f_X10_down at h
  refine g_lload_n C dX10_down_0 0 rfl rfl ?_
  refine g_lload_n C dX10_down_1 1 rfl rfl ?_
  obtain ⟨g_1, h⟩ := gd_some h
  refine g_ldiv C dX10_down_2 (neL_of_g g_1) ?_
  refine g_lstore (lv' := [(4, .long (v0 / v2)), (0, .long v0), (2, .long v2)]) C dX10_down_3 (by decide) rfl ?_
  refine g_lload_n C dX10_down_5 1 rfl rfl ?_
  refine g_lload_n C dX10_down_6 2 rfl rfl ?_
  refine g_lrem C dX10_down_7 (neL_of_g g_1) ?_
  refine g_lconst (v := (0 : Int64)) C dX10_down_8 (by decide) ?_
  refine g_lcmp C dX10_down_9 ?_
  refine g_if_ge (tgt := 20) C dX10_down_10 (by decide) (fun c_2 => ?_) (fun c_2 => ?_)
  · replace h := it_t c_2 h
    refine g_lload C dX10_down_20 0 rfl ?_
    refine g_l2i C dX10_down_22 ?_
    obtain rfl := Option.some.inj h
    exact hE 23 _ dX10_down_23
  · replace h := it_f c_2 h
    refine g_lload C dX10_down_13 0 rfl ?_
    refine g_lconst (v := (1 : Int64)) C dX10_down_15 (by decide) ?_
    refine g_lsub C dX10_down_16 ?_
    refine g_goto (tgt := 22) C dX10_down_17 (by decide) ?_
    refine g_l2i C dX10_down_22 ?_
    obtain rfl := Option.some.inj h
    exact hE 23 _ dX10_down_23
theorem c_X10_down (N : Nat) (l : Launch) (hst : l.stackTraces = false) (w : Om) (v0 : Int64) (v2 : Int64) (m : Mem) (o : Int32 × Mem) (h : f_X10_down N v0 v2 m = some o) : KI l yX10_down cX10_down 6 (some .int) 0 0 w [.long v0, .long v2] m o.1 o.2 := KI_of hst (by decide +kernel) RX10 rfl (Nat.le_of_ble_eq_true rfl) (fun Γ hw hl C hE => by
  subst hw; subst hl
  exact t_X10_down N Γ C v0 v2 m o h hE)
def Ex_X10_adjust_8 (Γ : Gc) (cs : Nat) (b : Int32 × Int32 × Int32 × Int32 × Mem) : Prop := (∀ (y1 : Int32) (y2 : Int32) (y3 : Int32) (y4 : Int32) (m' : Mem), b = (y1, y2, y3, y4, m') → G Γ 8 cs m' 51 [(0, .ref (oa (gw Γ) 95)), (1, .int y1), (2, .int y2), (3, .int y3), (4, .int y4)] [])
set_option maxRecDepth 100000 in
set_option maxHeartbeats 4000000 in
theorem t_X10_adjust_31 (N : Nat) (Γ : Gc) (C : Cx Γ cX10_adjust 8 RX10 (rmK 1 25 0)) (rc : Int32 → Int32 → Int32 → Int32 → Int32 → Mem → Option (Int32 × Int32 × Int32 × Int32 × Mem)) (b : Int32 × Int32 × Int32 × Int32 × Mem) (hE : Ex_X10_adjust_8 Γ 0 b) (hrec : ∀ (v1 : Int32) (v2 : Int32) (v3 : Int32) (v4 : Int32) (v5 : Int32) (m : Mem) (b : Int32 × Int32 × Int32 × Int32 × Mem), rc v1 v2 v3 v4 v5 m = some b → Ex_X10_adjust_8 Γ 0 b → G Γ 8 0 m 8 [(0, .ref (oa (gw Γ) 95)), (1, .int v1), (2, .int v2), (3, .int v3), (4, .int v4), (5, .int v5)] []) (v1 : Int32) (v2 : Int32) (v4 : Int32) (v5 : Int32) (s0 : Int32) (s1 : Int32) (m : Mem) (h : B_X10_adjust_31 N rc v1 v2 v4 v5 s0 s1 m = some b) : G Γ 8 0 m 31 [(0, .ref (oa (gw Γ) 95)), (1, .int v1), (2, .int v2), (4, .int v4), (5, .int v5)] [.int s0, .int s1] := by
  unfold B_X10_adjust_31 at h
  refine g_iadd C dX10_adjust_31 ?_
  refine g_istore_n (lv' := [(3, .int (s1 + s0)), (0, .ref (oa (gw Γ) 95)), (1, .int v1), (2, .int v2), (4, .int v4), (5, .int v5)]) C dX10_adjust_32 rfl (by decide) rfl ?_
  refine g_iload C dX10_adjust_33 4 rfl ?_
  refine g_aload_n C dX10_adjust_35 1 rfl rfl ?_
  refine g_iload_n C dX10_adjust_36 2 rfl rfl ?_
  refine g_iload C dX10_adjust_37 5 rfl ?_
  obtain ⟨r_2, m_2, hk_2, h⟩ := b2_some h
  refine g_vI (As := [.int v1, .int v5]) (a := 95) (ci := 10) C dX10_adjust_39 mf_X10_score k_601 rfl (by decide) ⟨by decide, by decide⟩ rfl rfl (Nat.le_of_ble_eq_true rfl) (by decide) rfl (c_X10_score N (gl Γ) C.2.2.2.2 (gw Γ) v1 v5 m _ hk_2) ?_
  refine g_iadd C dX10_adjust_42 ?_
  refine g_istore (lv' := [(4, .int (v4 + r_2)), (3, .int (s1 + s0)), (0, .ref (oa (gw Γ) 95)), (1, .int v1), (2, .int v2), (5, .int v5)]) C dX10_adjust_43 (by decide) rfl ?_
  refine g_iinc (q := 5) (v := v5 + (1 : Int32)) (lv' := [(5, .int (v5 + (1 : Int32))), (4, .int (v4 + r_2)), (3, .int (s1 + s0)), (0, .ref (oa (gw Γ) 95)), (1, .int v1), (2, .int v2)]) C dX10_adjust_45 rfl rfl (by decide) rfl ?_
  refine g_goto (tgt := 8) C dX10_adjust_48 (by decide) ?_
  refine g_sub [3, 4, 5, 2, 1, 0] rfl ?_
  exact hrec v1 v2 (s1 + s0) (v4 + r_2) (v5 + (1 : Int32)) m_2 b h hE
set_option maxRecDepth 100000 in
set_option maxHeartbeats 4000000 in
theorem t_X10_adjust_8 (N : Nat) (Γ : Gc) (C : Cx Γ cX10_adjust 8 RX10 (rmK 1 25 0)) (rc : Int32 → Int32 → Int32 → Int32 → Int32 → Mem → Option (Int32 × Int32 × Int32 × Int32 × Mem)) (b : Int32 × Int32 × Int32 × Int32 × Mem) (hE : Ex_X10_adjust_8 Γ 0 b) (hrec : ∀ (v1 : Int32) (v2 : Int32) (v3 : Int32) (v4 : Int32) (v5 : Int32) (m : Mem) (b : Int32 × Int32 × Int32 × Int32 × Mem), rc v1 v2 v3 v4 v5 m = some b → Ex_X10_adjust_8 Γ 0 b → G Γ 8 0 m 8 [(0, .ref (oa (gw Γ) 95)), (1, .int v1), (2, .int v2), (3, .int v3), (4, .int v4), (5, .int v5)] []) (v1 : Int32) (v2 : Int32) (v3 : Int32) (v4 : Int32) (v5 : Int32) (m : Mem) (h : T_X10_adjust_8 N rc v1 v2 v3 v4 v5 m = some b) : G Γ 8 0 m 8 [(0, .ref (oa (gw Γ) 95)), (1, .int v1), (2, .int v2), (3, .int v3), (4, .int v4), (5, .int v5)] [] := by
  unfold T_X10_adjust_8 at h
  refine g_iload C dX10_adjust_8 5 rfl ?_
  refine g_bipush (v := (16 : Int32)) C dX10_adjust_10 (by decide) ?_
  refine g_icmp_ge (tgt := 51) C dX10_adjust_12 (by decide) (fun c_4 => ?_) (fun c_4 => ?_)
  · replace h := it_t c_4 h
    obtain rfl := Option.some.inj h
    refine g_sub [0, 1, 2, 3, 4] rfl ?_
    exact hE _ _ _ _ _ rfl
  · replace h := it_f c_4 h
    refine g_iload_n C dX10_adjust_15 3 rfl rfl ?_
    refine g_aload_n C dX10_adjust_16 0 rfl rfl ?_
    refine g_iload_n C dX10_adjust_17 1 rfl rfl ?_
    refine g_iload C dX10_adjust_18 5 rfl ?_
    obtain ⟨r_1, m_1, hk_1, h⟩ := b2_some h
    refine g_vI (As := [.int v1, .int v5]) (a := 95) (ci := 10) C dX10_adjust_20 mf_X10_score k_601 rfl (by decide) ⟨by decide, by decide⟩ rfl rfl (Nat.le_of_ble_eq_true rfl) (by decide) rfl (c_X10_score N (gl Γ) C.2.2.2.2 (gw Γ) v1 v5 m _ hk_1) ?_
    refine g_if_le (tgt := 30) C dX10_adjust_23 (by decide) (fun c_3 => ?_) (fun c_3 => ?_)
    · replace h := it_t c_3 h
      refine g_iconst (v := (0 : Int32)) C dX10_adjust_30 (by decide) ?_
      refine g_sub [0, 1, 2, 4, 5] rfl ?_
      exact t_X10_adjust_31 N Γ C rc b hE hrec v1 v2 v4 v5 (0 : Int32) v3 m_1 h
    · replace h := it_f c_3 h
      refine g_iconst (v := (1 : Int32)) C dX10_adjust_26 (by decide) ?_
      refine g_goto (tgt := 31) C dX10_adjust_27 (by decide) ?_
      refine g_sub [0, 1, 2, 4, 5] rfl ?_
      exact t_X10_adjust_31 N Γ C rc b hE hrec v1 v2 v4 v5 (1 : Int32) v3 m_1 h
theorem lt_X10_adjust_8 (N : Nat) (Γ : Gc) (C : Cx Γ cX10_adjust 8 RX10 (rmK 1 25 0)) : ∀ (n : Nat) (v1 : Int32) (v2 : Int32) (v3 : Int32) (v4 : Int32) (v5 : Int32) (m : Mem) (b : Int32 × Int32 × Int32 × Int32 × Mem), L_X10_adjust_8 N n v1 v2 v3 v4 v5 m = some b → Ex_X10_adjust_8 Γ 0 b → G Γ 8 0 m 8 [(0, .ref (oa (gw Γ) 95)), (1, .int v1), (2, .int v2), (3, .int v3), (4, .int v4), (5, .int v5)] [] := by
  intro n
  induction n with
  | zero =>
    intro v1 v2 v3 v4 v5 m b h
    have h9 : (none : Option (Int32 × Int32 × Int32 × Int32 × Mem)) = some b := h
    cases h9
  | succ n ih => intro v1 v2 v3 v4 v5 m b h hE; exact t_X10_adjust_8 N Γ C (L_X10_adjust_8 N n) b hE ih v1 v2 v3 v4 v5 m h
def Ex_X10_adjust_57 (Γ : Gc) (cs : Nat) (b : Int32 × Int32 × Int32 × Int32 × Int32 × Mem) : Prop := (∀ (y1 : Int32) (y2 : Int32) (y3 : Int32) (y4 : Int32) (y5 : Int32) (m' : Mem), b = (y1, y2, y3, y4, y5, m') → G Γ 8 cs m' 116 [(0, .ref (oa (gw Γ) 95)), (1, .int y1), (2, .int y2), (3, .int y3), (4, .int y4), (5, .int y5)] [])
set_option maxRecDepth 100000 in
set_option maxHeartbeats 4000000 in
theorem t_X10_adjust_90 (N : Nat) (Γ : Gc) (C : Cx Γ cX10_adjust 8 RX10 (rmK 1 25 0)) (rc : Int32 → Int32 → Int32 → Int32 → Int32 → Int32 → Mem → Option (Int32 × Int32 × Int32 × Int32 × Int32 × Mem)) (b : Int32 × Int32 × Int32 × Int32 × Int32 × Mem) (hE : Ex_X10_adjust_57 Γ 0 b) (hrec : ∀ (v1 : Int32) (v2 : Int32) (v3 : Int32) (v4 : Int32) (v5 : Int32) (v6 : Int32) (m : Mem) (b : Int32 × Int32 × Int32 × Int32 × Int32 × Mem), rc v1 v2 v3 v4 v5 v6 m = some b → Ex_X10_adjust_57 Γ 0 b → G Γ 8 0 m 57 [(0, .ref (oa (gw Γ) 95)), (1, .int v1), (2, .int v2), (3, .int v3), (4, .int v4), (5, .int v5), (6, .int v6)] []) (v1 : Int32) (v2 : Int32) (v3 : Int32) (v4 : Int32) (v5 : Int32) (v6 : Int32) (s0 : Int32) (m : Mem) (h : B_X10_adjust_90 N rc v1 v2 v3 v4 v5 v6 s0 m = some b) : G Γ 8 0 m 90 [(0, .ref (oa (gw Γ) 95)), (1, .int v1), (2, .int v2), (3, .int v3), (4, .int v4), (5, .int v5), (6, .int v6)] [.int s0] := by
  unfold B_X10_adjust_90 at h
  refine g_istore (lv' := [(7, .int s0), (0, .ref (oa (gw Γ) 95)), (1, .int v1), (2, .int v2), (3, .int v3), (4, .int v4), (5, .int v5), (6, .int v6)]) C dX10_adjust_90 (by decide) rfl ?_
  refine g_iload C dX10_adjust_92 6 rfl ?_
  refine g_iload C dX10_adjust_94 0 rfl ?_
  refine g_if_ge (tgt := 105) C dX10_adjust_96 (by decide) (fun c_7 => ?_) (fun c_7 => ?_)
  · replace h := it_t c_7 h
    refine g_iload C dX10_adjust_105 0 rfl ?_
    refine g_iadd C dX10_adjust_107 ?_
    refine g_istore (lv' := [(5, .int (v5 + s0)), (7, .int s0), (0, .ref (oa (gw Γ) 95)), (1, .int v1), (2, .int v2), (3, .int v3), (4, .int v4), (6, .int v6)]) C dX10_adjust_108 (by decide) rfl ?_
    refine g_iinc (q := 7) (v := v6 + (1 : Int32)) (lv' := [(6, .int (v6 + (1 : Int32))), (5, .int (v5 + s0)), (7, .int s0), (0, .ref (oa (gw Γ) 95)), (1, .int v1), (2, .int v2), (3, .int v3), (4, .int v4)]) C dX10_adjust_110 rfl rfl (by decide) rfl ?_
    refine g_goto (tgt := 57) C dX10_adjust_113 (by decide) ?_
    refine g_sub [3, 4, 5, 6, 7, 1, 0] rfl ?_
    exact hrec v1 v2 v3 v4 (v5 + s0) (v6 + (1 : Int32)) m b h hE
  · replace h := it_f c_7 h
    refine g_iload C dX10_adjust_99 0 rfl ?_
    refine g_ineg C dX10_adjust_101 ?_
    refine g_goto (tgt := 107) C dX10_adjust_102 (by decide) ?_
    refine g_iadd C dX10_adjust_107 ?_
    refine g_istore (lv' := [(5, .int (v5 + (-s0))), (7, .int s0), (0, .ref (oa (gw Γ) 95)), (1, .int v1), (2, .int v2), (3, .int v3), (4, .int v4), (6, .int v6)]) C dX10_adjust_108 (by decide) rfl ?_
    refine g_iinc (q := 7) (v := v6 + (1 : Int32)) (lv' := [(6, .int (v6 + (1 : Int32))), (5, .int (v5 + (-s0))), (7, .int s0), (0, .ref (oa (gw Γ) 95)), (1, .int v1), (2, .int v2), (3, .int v3), (4, .int v4)]) C dX10_adjust_110 rfl rfl (by decide) rfl ?_
    refine g_goto (tgt := 57) C dX10_adjust_113 (by decide) ?_
    refine g_sub [3, 4, 5, 6, 7, 1, 0] rfl ?_
    exact hrec v1 v2 v3 v4 (v5 + (-s0)) (v6 + (1 : Int32)) m b h hE
set_option maxRecDepth 100000 in
set_option maxHeartbeats 4000000 in
theorem t_X10_adjust_57 (N : Nat) (Γ : Gc) (C : Cx Γ cX10_adjust 8 RX10 (rmK 1 25 0)) (rc : Int32 → Int32 → Int32 → Int32 → Int32 → Int32 → Mem → Option (Int32 × Int32 × Int32 × Int32 × Int32 × Mem)) (b : Int32 × Int32 × Int32 × Int32 × Int32 × Mem) (hE : Ex_X10_adjust_57 Γ 0 b) (hrec : ∀ (v1 : Int32) (v2 : Int32) (v3 : Int32) (v4 : Int32) (v5 : Int32) (v6 : Int32) (m : Mem) (b : Int32 × Int32 × Int32 × Int32 × Int32 × Mem), rc v1 v2 v3 v4 v5 v6 m = some b → Ex_X10_adjust_57 Γ 0 b → G Γ 8 0 m 57 [(0, .ref (oa (gw Γ) 95)), (1, .int v1), (2, .int v2), (3, .int v3), (4, .int v4), (5, .int v5), (6, .int v6)] []) (v1 : Int32) (v2 : Int32) (v3 : Int32) (v4 : Int32) (v5 : Int32) (v6 : Int32) (m : Mem) (h : T_X10_adjust_57 N rc v1 v2 v3 v4 v5 v6 m = some b) : G Γ 8 0 m 57 [(0, .ref (oa (gw Γ) 95)), (1, .int v1), (2, .int v2), (3, .int v3), (4, .int v4), (5, .int v5), (6, .int v6)] [] := by
  unfold T_X10_adjust_57 at h
  refine g_iload C dX10_adjust_57 6 rfl ?_
  refine g_bipush (v := (16 : Int32)) C dX10_adjust_59 (by decide) ?_
  refine g_icmp_ge (tgt := 116) C dX10_adjust_61 (by decide) (fun c_10 => ?_) (fun c_10 => ?_)
  · replace h := it_t c_10 h
    obtain rfl := Option.some.inj h
    refine g_sub [0, 1, 2, 3, 4, 5] rfl ?_
    exact hE _ _ _ _ _ _ rfl
  · replace h := it_f c_10 h
    refine g_aload_n C dX10_adjust_64 0 rfl rfl ?_
    refine g_iload_n C dX10_adjust_65 1 rfl rfl ?_
    refine g_iload C dX10_adjust_66 6 rfl ?_
    obtain ⟨r_6, m_6, hk_6, h⟩ := b2_some h
    refine g_vI (As := [.int v1, .int v6]) (a := 95) (ci := 10) C dX10_adjust_68 mf_X10_score k_601 rfl (by decide) ⟨by decide, by decide⟩ rfl rfl (Nat.le_of_ble_eq_true rfl) (by decide) rfl (c_X10_score N (gl Γ) C.2.2.2.2 (gw Γ) v1 v6 m _ hk_6) ?_
    refine g_if_le (tgt := 89) C dX10_adjust_71 (by decide) (fun c_9 => ?_) (fun c_9 => ?_)
    · replace h := it_t c_9 h
      refine g_iconst (v := (0 : Int32)) C dX10_adjust_89 (by decide) ?_
      refine g_sub [0, 1, 2, 3, 4, 5, 6] rfl ?_
      exact t_X10_adjust_90 N Γ C rc b hE hrec v1 v2 v3 v4 v5 v6 (0 : Int32) m_6 h
    · replace h := it_f c_9 h
      refine g_iload_n C dX10_adjust_74 3 rfl rfl ?_
      refine g_aload_n C dX10_adjust_75 0 rfl rfl ?_
      refine g_iload_n C dX10_adjust_76 1 rfl rfl ?_
      refine g_iload C dX10_adjust_77 6 rfl ?_
      obtain ⟨r_8, m_8, hk_8, h⟩ := b2_some h
      refine g_vI (As := [.int v1, .int v6]) (a := 95) (ci := 10) C dX10_adjust_79 mf_X10_score k_601 rfl (by decide) ⟨by decide, by decide⟩ rfl rfl (Nat.le_of_ble_eq_true rfl) (by decide) rfl (c_X10_score N (gl Γ) C.2.2.2.2 (gw Γ) v1 v6 m_6 _ hk_8) ?_
      refine g_imul C dX10_adjust_82 ?_
      refine g_iload C dX10_adjust_83 4 rfl ?_
      refine g_isub C dX10_adjust_85 ?_
      refine g_goto (tgt := 90) C dX10_adjust_86 (by decide) ?_
      refine g_sub [0, 1, 2, 3, 4, 5, 6] rfl ?_
      exact t_X10_adjust_90 N Γ C rc b hE hrec v1 v2 v3 v4 v5 v6 ((v3 * r_8) - v4) m_8 h
theorem lt_X10_adjust_57 (N : Nat) (Γ : Gc) (C : Cx Γ cX10_adjust 8 RX10 (rmK 1 25 0)) : ∀ (n : Nat) (v1 : Int32) (v2 : Int32) (v3 : Int32) (v4 : Int32) (v5 : Int32) (v6 : Int32) (m : Mem) (b : Int32 × Int32 × Int32 × Int32 × Int32 × Mem), L_X10_adjust_57 N n v1 v2 v3 v4 v5 v6 m = some b → Ex_X10_adjust_57 Γ 0 b → G Γ 8 0 m 57 [(0, .ref (oa (gw Γ) 95)), (1, .int v1), (2, .int v2), (3, .int v3), (4, .int v4), (5, .int v5), (6, .int v6)] [] := by
  intro n
  induction n with
  | zero =>
    intro v1 v2 v3 v4 v5 v6 m b h
    have h9 : (none : Option (Int32 × Int32 × Int32 × Int32 × Int32 × Mem)) = some b := h
    cases h9
  | succ n ih => intro v1 v2 v3 v4 v5 v6 m b h hE; exact t_X10_adjust_57 N Γ C (L_X10_adjust_57 N n) b hE ih v1 v2 v3 v4 v5 v6 m h
set_option maxRecDepth 100000 in
set_option maxHeartbeats 4000000 in
theorem t_X10_adjust (N : Nat) (Γ : Gc) (C : Cx Γ cX10_adjust 8 RX10 (rmK 1 25 0)) (v1 : Int32) (v2 : Int32) (m : Mem) (b : Int32 × Mem) (h : f_X10_adjust N v1 v2 m = some b) (hE : EIn Γ 8 cX10_adjust b) : G Γ 8 0 m 0 [(0, .ref (oa (gw Γ) 95)), (1, .int v1), (2, .int v2)] [] := by
  unfold f_X10_adjust at h
  refine g_iconst (v := (0 : Int32)) C dX10_adjust_0 (by decide) ?_
  refine g_istore_n (lv' := [(3, .int (0 : Int32)), (0, .ref (oa (gw Γ) 95)), (1, .int v1), (2, .int v2)]) C dX10_adjust_1 rfl (by decide) rfl ?_
  refine g_iconst (v := (0 : Int32)) C dX10_adjust_2 (by decide) ?_
  refine g_istore (lv' := [(4, .int (0 : Int32)), (3, .int (0 : Int32)), (0, .ref (oa (gw Γ) 95)), (1, .int v1), (2, .int v2)]) C dX10_adjust_3 (by decide) rfl ?_
  refine g_iconst (v := (0 : Int32)) C dX10_adjust_5 (by decide) ?_
  refine g_istore (lv' := [(5, .int (0 : Int32)), (4, .int (0 : Int32)), (3, .int (0 : Int32)), (0, .ref (oa (gw Γ) 95)), (1, .int v1), (2, .int v2)]) C dX10_adjust_6 (by decide) rfl ?_
  obtain ⟨v1_5, v2_5, v3_5, v4_5, m_5, hx, h⟩ := l5_some h
  refine g_sub [3, 4, 5, 2, 1, 0] rfl ?_
  refine lt_X10_adjust_8 N Γ C N v1 v2 (0 : Int32) (0 : Int32) (0 : Int32) m _ hx ?_
  intro z1 z2 z3 z4 m9 e9
  cases e9
  refine g_iconst (v := (0 : Int32)) C dX10_adjust_51 (by decide) ?_
  refine g_istore (lv' := [(5, .int (0 : Int32)), (0, .ref (oa (gw Γ) 95)), (1, .int v1_5), (2, .int v2_5), (3, .int v3_5), (4, .int v4_5)]) C dX10_adjust_52 (by decide) rfl ?_
  refine g_iconst (v := (0 : Int32)) C dX10_adjust_54 (by decide) ?_
  refine g_istore (lv' := [(6, .int (0 : Int32)), (5, .int (0 : Int32)), (0, .ref (oa (gw Γ) 95)), (1, .int v1_5), (2, .int v2_5), (3, .int v3_5), (4, .int v4_5)]) C dX10_adjust_55 (by decide) rfl ?_
  obtain ⟨v1_11, v2_11, v3_11, v4_11, v5_11, m_11, hx, h⟩ := l6_some h
  refine g_sub [2, 3, 4, 5, 6, 1, 0] rfl ?_
  refine lt_X10_adjust_57 N Γ C N v1_5 v2_5 v3_5 v4_5 (0 : Int32) (0 : Int32) m_5 _ hx ?_
  intro z1 z2 z3 z4 z5 m9 e9
  cases e9
  refine g_iload C dX10_adjust_116 5 rfl ?_
  refine g_if_ne (tgt := 126) C dX10_adjust_118 (by decide) (fun c_14 => ?_) (fun c_14 => ?_)
  · replace h := it_f c_14 h
    refine g_ldc (v := (50000 : Int32)) C dX10_adjust_126 k_694 ?_
    refine g_ldc2 (v := (20000 : Int64)) C dX10_adjust_128 k_695 ?_
    refine g_iload_n C dX10_adjust_131 3 rfl rfl ?_
    refine g_i2l C dX10_adjust_132 ?_
    refine g_lmul C dX10_adjust_133 ?_
    refine g_iload_n C dX10_adjust_134 3 rfl rfl ?_
    refine g_aload_n C dX10_adjust_135 0 rfl rfl ?_
    refine g_iload_n C dX10_adjust_136 1 rfl rfl ?_
    refine g_iload_n C dX10_adjust_137 2 rfl rfl ?_
    obtain ⟨r_12, m_12, hk_12, h⟩ := b2_some h
    refine g_vI (As := [.int v1_11, .int v2_11]) (a := 95) (ci := 10) C dX10_adjust_138 mf_X10_score k_601 rfl (by decide) ⟨by decide, by decide⟩ rfl rfl (Nat.le_of_ble_eq_true rfl) (by decide) rfl (c_X10_score N (gl Γ) C.2.2.2.2 (gw Γ) v1_11 v2_11 m_11 _ hk_12) ?_
    refine g_imul C dX10_adjust_141 ?_
    refine g_iload C dX10_adjust_142 4 rfl ?_
    refine g_isub C dX10_adjust_144 ?_
    refine g_i2l C dX10_adjust_145 ?_
    refine g_lmul C dX10_adjust_146 ?_
    refine g_iload C dX10_adjust_147 5 rfl ?_
    refine g_i2l C dX10_adjust_149 ?_
    obtain ⟨r_13, m_13, hk_13, h⟩ := b2_some h
    refine g_sI (As := [.long (((20000 : Int64) * v3_11.toInt64) * (((v3_11 * r_12) - v4_11).toInt64)), .long v5_11.toInt64]) C dX10_adjust_150 mf_X10_down k_696 ⟨by decide, by decide⟩ rfl rfl (Nat.le_of_ble_eq_true rfl) (by decide) (c_X10_down N (gl Γ) C.2.2.2.2 (gw Γ) (((20000 : Int64) * v3_11.toInt64) * (((v3_11 * r_12) - v4_11).toInt64)) v5_11.toInt64 m_12 _ hk_13) ?_
    refine g_iadd C dX10_adjust_153 ?_
    obtain rfl := Option.some.inj h
    exact hE 154 _ dX10_adjust_154
  · replace h := it_t c_14 h
    refine g_ldc (v := (50000 : Int32)) C dX10_adjust_121 k_694 ?_
    refine g_goto (tgt := 154) C dX10_adjust_123 (by decide) ?_
    obtain rfl := Option.some.inj h
    exact hE 154 _ dX10_adjust_154
theorem c_X10_adjust (N : Nat) (l : Launch) (hst : l.stackTraces = false) (w : Om) (v1 : Int32) (v2 : Int32) (m : Mem) (o : Int32 × Mem) (h : f_X10_adjust N v1 v2 m = some o) : KI l yX10_adjust cX10_adjust 8 (some .int) 1 25 w [.ref (oa w 95), .int v1, .int v2] m o.1 o.2 := KI_of hst (by decide +kernel) RX10 rfl (Nat.le_of_ble_eq_true rfl) (fun Γ hw hl C hE => by
  subst hw; subst hl
  exact t_X10_adjust N Γ C v1 v2 m o h hE)
set_option maxRecDepth 100000 in
set_option maxHeartbeats 4000000 in
theorem t_X10_isScored (N : Nat) (Γ : Gc) (C : Cx Γ cX10_isScored 3 RX10 (rmK 1 22 0)) (v1 : Int32) (v2 : Int32) (m : Mem) (b : Int32 × Mem) (h : f_X10_isScored N v1 v2 m = some b) (hE : EZn Γ 3 cX10_isScored b) : G Γ 3 0 m 0 [(0, .ref (oa (gw Γ) 95)), (1, .int v1), (2, .int v2)] [] := by
  unfold f_X10_isScored at h
  refine g_aload_n C dX10_isScored_0 0 rfl rfl ?_
  refine g_iload_n C dX10_isScored_1 1 rfl rfl ?_
  refine g_iload_n C dX10_isScored_2 2 rfl rfl ?_
  obtain ⟨r_1, m_1, hk_1, h⟩ := b2_some h
  refine g_vI (As := [.int v1, .int v2]) (a := 95) (ci := 10) C dX10_isScored_3 mf_X10_score k_601 rfl (by decide) ⟨by decide, by decide⟩ rfl rfl (Nat.le_of_ble_eq_true rfl) (by decide) rfl (c_X10_score N (gl Γ) C.2.2.2.2 (gw Γ) v1 v2 m _ hk_1) ?_
  refine g_if_le (tgt := 13) C dX10_isScored_6 (by decide) (fun c_2 => ?_) (fun c_2 => ?_)
  · replace h := it_t c_2 h
    refine g_iconst (v := (0 : Int32)) C dX10_isScored_13 (by decide) ?_
    obtain rfl := Option.some.inj h
    exact hE 14 _ (show isB (0 : Int32) = true by decide) dX10_isScored_14
  · replace h := it_f c_2 h
    refine g_iconst (v := (1 : Int32)) C dX10_isScored_9 (by decide) ?_
    refine g_goto (tgt := 14) C dX10_isScored_10 (by decide) ?_
    obtain rfl := Option.some.inj h
    exact hE 14 _ (show isB (1 : Int32) = true by decide) dX10_isScored_14
theorem c_X10_isScored (N : Nat) (l : Launch) (hst : l.stackTraces = false) (w : Om) (v1 : Int32) (v2 : Int32) (m : Mem) (o : Int32 × Mem) (h : f_X10_isScored N v1 v2 m = some o) : KI l yX10_isScored cX10_isScored 3 (some .boolean) 1 22 w [.ref (oa w 95), .int v1, .int v2] m o.1 o.2 := KZ_of hst (by decide +kernel) RX10 rfl (Nat.le_of_ble_eq_true rfl) (fun Γ hw hl C hE => by
  subst hw; subst hl
  exact t_X10_isScored N Γ C v1 v2 m o h hE)
set_option maxRecDepth 100000 in
set_option maxHeartbeats 4000000 in
theorem t_X10_adjusted (N : Nat) (Γ : Gc) (C : Cx Γ cX10_adjusted 3 RX10 (rmK 3 65 0)) (v1 : Int32) (v2 : Int32) (m : Mem) (b : Int32 × Mem) (h : f_X10_adjusted N v1 v2 m = some b) (hE : EIn Γ 3 cX10_adjusted b) : G Γ 3 0 m 0 [(0, .ref (oa (gw Γ) 95)), (1, .int v1), (2, .int v2)] [] := by
  unfold f_X10_adjusted at h
  refine g_aload_n C dX10_adjusted_0 0 rfl rfl ?_
  refine g_iload_n C dX10_adjusted_1 1 rfl rfl ?_
  refine g_iload_n C dX10_adjusted_2 2 rfl rfl ?_
  obtain ⟨r_1, m_1, hk_1, h⟩ := b2_some h
  refine g_vI (As := [.int v1, .int v2]) (a := 95) (ci := 10) C dX10_adjusted_3 mf_X10_areBoth k_633 rfl (by decide) ⟨by decide, by decide⟩ rfl rfl (Nat.le_of_ble_eq_true rfl) (by decide) rfl (c_X10_areBoth N (gl Γ) C.2.2.2.2 (gw Γ) v1 v2 m _ hk_1) ?_
  refine g_if_ne (tgt := 11) C dX10_adjusted_6 (by decide) (fun c_6 => ?_) (fun c_6 => ?_)
  · replace h := it_f c_6 h
    refine g_aload_n C dX10_adjusted_11 0 rfl rfl ?_
    refine g_iload_n C dX10_adjusted_12 1 rfl rfl ?_
    refine g_iload_n C dX10_adjusted_13 2 rfl rfl ?_
    obtain ⟨r_2, m_2, hk_2, h⟩ := b2_some h
    refine g_vI (As := [.int v1, .int v2]) (a := 95) (ci := 10) C dX10_adjusted_14 mf_X10_isScored k_699 rfl (by decide) ⟨by decide, by decide⟩ rfl rfl (Nat.le_of_ble_eq_true rfl) (by decide) rfl (c_X10_isScored N (gl Γ) C.2.2.2.2 (gw Γ) v1 v2 m_1 _ hk_2) ?_
    refine g_if_eq (tgt := 29) C dX10_adjusted_17 (by decide) (fun c_5 => ?_) (fun c_5 => ?_)
    · replace h := it_t c_5 h
      refine g_aload_n C dX10_adjusted_29 0 rfl rfl ?_
      refine g_iconst (v := (2 : Int32)) C dX10_adjusted_30 (by decide) ?_
      obtain ⟨r_3, m_3, hk_3, h⟩ := b2_some h
      refine g_vI (As := [.int (2 : Int32)]) (a := 95) (ci := 10) C dX10_adjusted_31 mf_X10_fails k_517 rfl (by decide) ⟨by decide, by decide⟩ rfl rfl (Nat.le_of_ble_eq_true rfl) (by decide) rfl (c_X10_fails N (gl Γ) C.2.2.2.2 (gw Γ) (2 : Int32) m_2 _ hk_3) ?_
      obtain rfl := Option.some.inj h
      exact hE 34 _ dX10_adjusted_34
    · replace h := it_f c_5 h
      refine g_aload_n C dX10_adjusted_20 0 rfl rfl ?_
      refine g_iload_n C dX10_adjusted_21 1 rfl rfl ?_
      refine g_iload_n C dX10_adjusted_22 2 rfl rfl ?_
      obtain ⟨r_4, m_4, hk_4, h⟩ := b2_some h
      refine g_vI (As := [.int v1, .int v2]) (a := 95) (ci := 10) C dX10_adjusted_23 mf_X10_adjust k_703 rfl (by decide) ⟨by decide, by decide⟩ rfl rfl (Nat.le_of_ble_eq_true rfl) (by decide) rfl (c_X10_adjust N (gl Γ) C.2.2.2.2 (gw Γ) v1 v2 m_2 _ hk_4) ?_
      refine g_goto (tgt := 34) C dX10_adjusted_26 (by decide) ?_
      obtain rfl := Option.some.inj h
      exact hE 34 _ dX10_adjusted_34
  · replace h := it_t c_6 h
    refine g_iconst (v := (0 : Int32)) C dX10_adjusted_9 (by decide) ?_
    obtain rfl := Option.some.inj h
    exact hE 10 _ dX10_adjusted_10
theorem c_X10_adjusted (N : Nat) (l : Launch) (hst : l.stackTraces = false) (w : Om) (v1 : Int32) (v2 : Int32) (m : Mem) (o : Int32 × Mem) (h : f_X10_adjusted N v1 v2 m = some o) : KI l yX10_adjusted cX10_adjusted 3 (some .int) 3 65 w [.ref (oa w 95), .int v1, .int v2] m o.1 o.2 := KI_of hst (by decide +kernel) RX10 rfl (Nat.le_of_ble_eq_true rfl) (fun Γ hw hl C hE => by
  subst hw; subst hl
  exact t_X10_adjusted N Γ C v1 v2 m o h hE)
