set_option maxRecDepth 100000 in
set_option maxHeartbeats 4000000 in
theorem t_X0_clear (N : Nat) (Γ : Gc) (C : Cx Γ cX0_clear 1 RX0 (rmK 0 0 0)) (v0 : Nat) (m : Mem) (b : Mem) (h : f_X0_clear N v0 m = some b) (hE : EVn Γ 1 cX0_clear b) : G Γ 1 0 m 0 [(0, .ref (oa (gw Γ) v0))] [] := by
  unfold f_X0_clear at h
  refine g_aload_n C dX0_clear_0 0 rfl rfl ?_
  obtain ⟨g_1, h⟩ := gd_some h
  refine g_getR (ci := 0) (j := 0) C dX0_clear_1 rfl (by decide) rfl inT_X0 (by decide) k_0 rfl rfl g_1 ?_
  refine g_iconst (v := (0 : Int32)) C dX0_clear_4 (by decide) ?_
  refine g_iconst (v := (0 : Int32)) C dX0_clear_5 (by decide) ?_
  obtain ⟨g_2, h⟩ := gd_some h
  obtain ⟨m_3, e_3, h⟩ := wr_some h
  refine g_iast' (j := 0) C dX0_clear_6 g_2 (by decide) (G_m e_3 ?_)
  refine g_aload_n C dX0_clear_7 0 rfl rfl ?_
  refine g_getR (ci := 0) (j := 1) C dX0_clear_8 rfl (by decide) rfl inT_X0 (by decide) k_1 rfl rfl g_1 ?_
  refine g_iconst (v := (0 : Int32)) C dX0_clear_11 (by decide) ?_
  refine g_iconst (v := (0 : Int32)) C dX0_clear_12 (by decide) ?_
  obtain ⟨g_4, h⟩ := gd_some h
  obtain ⟨m_5, e_5, h⟩ := wr_some h
  refine g_iast' (j := 0) C dX0_clear_13 g_4 (by decide) (G_m e_5 ?_)
  refine g_aload_n C dX0_clear_14 0 rfl rfl ?_
  refine g_iconst (v := (1 : Int32)) C dX0_clear_15 (by decide) ?_
  obtain ⟨m_6, e_6, h⟩ := wr_some h
  refine g_putI (ci := 0) (j := 2) C dX0_clear_16 rfl (by decide) rfl inT_X0 (by decide) k_2 tyX0 tyX0_ok nmX0 rfl rfl g_1 rfl rfl (G_m e_6 ?_)
  obtain rfl := Option.some.inj h
  exact hE 19 _ dX0_clear_19
theorem c_X0_clear (N : Nat) (l : Launch) (hst : l.stackTraces = false) (w : Om) (v0 : Nat) (m : Mem) (o : Mem) (h : f_X0_clear N v0 m = some o) : KV l yX0_clear cX0_clear 1 none 0 0 w [.ref (oa w v0)] m o := KV_of hst (by decide +kernel) RX0 rfl (Nat.le_of_ble_eq_true rfl) (fun Γ hw hl C hE => by
  subst hw; subst hl
  exact t_X0_clear N Γ C v0 m o h hE)
set_option maxRecDepth 100000 in
set_option maxHeartbeats 4000000 in
theorem t_X0_keep_27 (N : Nat) (Γ : Gc) (C : Cx Γ cX0_keep 4 RX0 (rmK 0 0 0)) (b : Mem) (hE : EVn Γ 4 cX0_keep b) (v0 : Nat) (v1 : Int32) (v2 : Int32) (s0 : Int32) (m : Mem) (h : B_X0_keep_27 N v0 v1 v2 s0 m = some b) : G Γ 4 0 m 27 [(0, .ref (oa (gw Γ) v0)), (1, .int v1), (2, .int v2)] [.int s0] := by
  unfold B_X0_keep_27 at h
  refine g_istore_n (lv' := [(3, .int s0), (0, .ref (oa (gw Γ) v0)), (1, .int v1), (2, .int v2)]) C dX0_keep_27 rfl (by decide) rfl ?_
  refine g_iload_n C dX0_keep_28 0 rfl rfl ?_
  refine g_if_eq (tgt := 72) C dX0_keep_29 (by decide) (fun c_9 => ?_) (fun c_9 => ?_)
  · replace h := it_t c_9 h
    obtain rfl := Option.some.inj h
    exact hE 72 _ dX0_keep_72
  · replace h := it_f c_9 h
    refine g_aload_n C dX0_keep_32 1 rfl rfl ?_
    obtain ⟨g_2, h⟩ := gd_some h
    refine g_getI (ci := 0) (j := 5) C dX0_keep_33 rfl (by decide) rfl inT_X0 (by decide) k_3 rfl g_2 ?_
    refine g_sipush (v := (256 : Int32)) C dX0_keep_36 (by decide) ?_
    refine g_icmp_ge (tgt := 72) C dX0_keep_39 (by decide) (fun c_8 => ?_) (fun c_8 => ?_)
    · replace h := it_t c_8 h
      obtain rfl := Option.some.inj h
      exact hE 72 _ dX0_keep_72
    · replace h := it_f c_8 h
      refine g_aload_n C dX0_keep_42 1 rfl rfl ?_
      refine g_getR (ci := 0) (j := 3) C dX0_keep_43 rfl (by decide) rfl inT_X0 (by decide) k_4 rfl rfl g_2 ?_
      refine g_aload_n C dX0_keep_46 1 rfl rfl ?_
      refine g_getI (ci := 0) (j := 5) C dX0_keep_47 rfl (by decide) rfl inT_X0 (by decide) k_3 rfl g_2 ?_
      refine g_iload_n C dX0_keep_50 2 rfl rfl ?_
      obtain ⟨g_3, h⟩ := gd_some h
      obtain ⟨m_4, e_4, h⟩ := wr_some h
      refine g_iast C dX0_keep_51 g_3 (G_m e_4 ?_)
      refine g_aload_n C dX0_keep_52 1 rfl rfl ?_
      refine g_getR (ci := 0) (j := 4) C dX0_keep_53 rfl (by decide) rfl inT_X0 (by decide) k_5 rfl rfl g_2 ?_
      refine g_aload_n C dX0_keep_56 1 rfl rfl ?_
      refine g_getI (ci := 0) (j := 5) C dX0_keep_57 rfl (by decide) rfl inT_X0 (by decide) k_3 rfl g_2 ?_
      refine g_iload_n C dX0_keep_60 3 rfl rfl ?_
      obtain ⟨g_5, h⟩ := gd_some h
      obtain ⟨m_6, e_6, h⟩ := wr_some h
      refine g_iast C dX0_keep_61 g_5 (G_m e_6 ?_)
      refine g_aload_n C dX0_keep_62 1 rfl rfl ?_
      refine g_dup C dX0_keep_63 rfl ?_
      refine g_getI (ci := 0) (j := 5) C dX0_keep_64 rfl (by decide) rfl inT_X0 (by decide) k_3 rfl g_2 ?_
      refine g_iconst (v := (1 : Int32)) C dX0_keep_67 (by decide) ?_
      refine g_iadd C dX0_keep_68 ?_
      obtain ⟨m_7, e_7, h⟩ := wr_some h
      refine g_putI (ci := 0) (j := 5) C dX0_keep_69 rfl (by decide) rfl inT_X0 (by decide) k_3 tyX0 tyX0_ok nmX0 rfl rfl g_2 rfl rfl (G_m e_7 ?_)
      obtain rfl := Option.some.inj h
      exact hE 72 _ dX0_keep_72
set_option maxRecDepth 100000 in
set_option maxHeartbeats 4000000 in
theorem t_X0_keep_22 (N : Nat) (Γ : Gc) (C : Cx Γ cX0_keep 4 RX0 (rmK 0 0 0)) (b : Mem) (hE : EVn Γ 4 cX0_keep b) (v0 : Nat) (v1 : Int32) (v2 : Int32) (m : Mem) (h : B_X0_keep_22 N v0 v1 v2 m = some b) : G Γ 4 0 m 22 [(0, .ref (oa (gw Γ) v0)), (1, .int v1), (2, .int v2)] [] := by
  unfold B_X0_keep_22 at h
  refine g_iconst (v := (1 : Int32)) C dX0_keep_22 (by decide) ?_
  refine g_goto (tgt := 27) C dX0_keep_23 (by decide) ?_
  refine g_sub [0, 1, 2] rfl ?_
  exact t_X0_keep_27 N Γ C b hE v0 v1 v2 (1 : Int32) m h
set_option maxRecDepth 100000 in
set_option maxHeartbeats 4000000 in
theorem t_X0_keep (N : Nat) (Γ : Gc) (C : Cx Γ cX0_keep 4 RX0 (rmK 0 0 0)) (v0 : Nat) (v1 : Int32) (v2 : Int32) (m : Mem) (b : Mem) (h : f_X0_keep N v0 v1 v2 m = some b) (hE : EVn Γ 4 cX0_keep b) : G Γ 4 0 m 0 [(0, .ref (oa (gw Γ) v0)), (1, .int v1), (2, .int v2)] [] := by
  unfold f_X0_keep at h
  refine g_aload_n C dX0_keep_0 0 rfl rfl ?_
  obtain ⟨g_1, h⟩ := gd_some h
  refine g_getI (ci := 0) (j := 5) C dX0_keep_1 rfl (by decide) rfl inT_X0 (by decide) k_3 rfl g_1 ?_
  refine g_if_eq (tgt := 22) C dX0_keep_4 (by decide) (fun c_12 => ?_) (fun c_12 => ?_)
  · replace h := it_t c_12 h
    refine g_sub [0, 1, 2] rfl ?_
    exact t_X0_keep_22 N Γ C b hE v0 v1 v2 m h
  · replace h := it_f c_12 h
    refine g_iload_n C dX0_keep_7 2 rfl rfl ?_
    refine g_aload_n C dX0_keep_8 0 rfl rfl ?_
    refine g_getR (ci := 0) (j := 4) C dX0_keep_9 rfl (by decide) rfl inT_X0 (by decide) k_5 rfl rfl g_1 ?_
    refine g_aload_n C dX0_keep_12 0 rfl rfl ?_
    refine g_getI (ci := 0) (j := 5) C dX0_keep_13 rfl (by decide) rfl inT_X0 (by decide) k_3 rfl g_1 ?_
    refine g_iconst (v := (1 : Int32)) C dX0_keep_16 (by decide) ?_
    refine g_isub C dX0_keep_17 ?_
    obtain ⟨g_10, h⟩ := gd_some h
    refine g_iald C dX0_keep_18 g_10 ?_
    refine g_icmp_le (tgt := 26) C dX0_keep_19 (by decide) (fun c_11 => ?_) (fun c_11 => ?_)
    · replace h := it_t c_11 h
      refine g_iconst (v := (0 : Int32)) C dX0_keep_26 (by decide) ?_
      refine g_sub [0, 1, 2] rfl ?_
      exact t_X0_keep_27 N Γ C b hE v0 v1 v2 (0 : Int32) m h
    · replace h := it_f c_11 h
      refine g_sub [0, 1, 2] rfl ?_
      exact t_X0_keep_22 N Γ C b hE v0 v1 v2 m h
theorem c_X0_keep (N : Nat) (l : Launch) (hst : l.stackTraces = false) (w : Om) (v0 : Nat) (v1 : Int32) (v2 : Int32) (m : Mem) (o : Mem) (h : f_X0_keep N v0 v1 v2 m = some o) : KV l yX0_keep cX0_keep 4 none 0 0 w [.ref (oa w v0), .int v1, .int v2] m o := KV_of hst (by decide +kernel) RX0 rfl (Nat.le_of_ble_eq_true rfl) (fun Γ hw hl C hE => by
  subst hw; subst hl
  exact t_X0_keep N Γ C v0 v1 v2 m o h hE)
set_option maxRecDepth 100000 in
set_option maxHeartbeats 4000000 in
theorem t_X0_swap (N : Nat) (Γ : Gc) (C : Cx Γ cX0_swap 3 RX0 (rmK 0 0 0)) (v0 : Nat) (m : Mem) (b : Mem) (h : f_X0_swap N v0 m = some b) (hE : EVn Γ 3 cX0_swap b) : G Γ 3 0 m 0 [(0, .ref (oa (gw Γ) v0))] [] := by
  unfold f_X0_swap at h
  refine g_aload_n C dX0_swap_0 0 rfl rfl ?_
  obtain ⟨g_1, h⟩ := gd_some h
  refine g_getR (ci := 0) (j := 0) C dX0_swap_1 rfl (by decide) rfl inT_X0 (by decide) k_0 rfl rfl g_1 ?_
  refine g_astore_n (lv' := [(1, .ref (oa (gw Γ) (gR m v0 0))), (0, .ref (oa (gw Γ) v0))]) C dX0_swap_4 rfl (by decide) rfl ?_
  refine g_aload_n C dX0_swap_5 1 rfl rfl ?_
  refine g_getR (ci := 0) (j := 1) C dX0_swap_6 rfl (by decide) rfl inT_X0 (by decide) k_1 rfl rfl g_1 ?_
  refine g_astore_n (lv' := [(2, .ref (oa (gw Γ) (gR m v0 1))), (1, .ref (oa (gw Γ) (gR m v0 0))), (0, .ref (oa (gw Γ) v0))]) C dX0_swap_9 rfl (by decide) rfl ?_
  refine g_aload_n C dX0_swap_10 2 rfl rfl ?_
  refine g_aload_n C dX0_swap_11 2 rfl rfl ?_
  refine g_getR (ci := 0) (j := 3) C dX0_swap_12 rfl (by decide) rfl inT_X0 (by decide) k_4 rfl rfl g_1 ?_
  obtain ⟨m_2, e_2, h⟩ := wr_some h
  refine g_putR (ci := 0) (j := 0) C dX0_swap_15 rfl (by decide) rfl inT_X0 (by decide) k_0 tyX0 tyX0_ok nmX0 rfl rfl rfl g_1 rfl rfl (G_m e_2 ?_)
  refine g_aload_n C dX0_swap_18 2 rfl rfl ?_
  refine g_aload_n C dX0_swap_19 2 rfl rfl ?_
  refine g_getR (ci := 0) (j := 4) C dX0_swap_20 rfl (by decide) rfl inT_X0 (by decide) k_5 rfl rfl g_1 ?_
  obtain ⟨m_3, e_3, h⟩ := wr_some h
  refine g_putR (ci := 0) (j := 1) C dX0_swap_23 rfl (by decide) rfl inT_X0 (by decide) k_1 tyX0 tyX0_ok nmX0 rfl rfl rfl g_1 rfl rfl (G_m e_3 ?_)
  refine g_aload_n C dX0_swap_26 2 rfl rfl ?_
  refine g_aload_n C dX0_swap_27 1 rfl rfl ?_
  obtain ⟨m_4, e_4, h⟩ := wr_some h
  refine g_putR (ci := 0) (j := 3) C dX0_swap_28 rfl (by decide) rfl inT_X0 (by decide) k_4 tyX0 tyX0_ok nmX0 rfl rfl rfl g_1 rfl rfl (G_m e_4 ?_)
  refine g_aload_n C dX0_swap_31 2 rfl rfl ?_
  refine g_aload_n C dX0_swap_32 0 rfl rfl ?_
  obtain ⟨m_5, e_5, h⟩ := wr_some h
  refine g_putR (ci := 0) (j := 4) C dX0_swap_33 rfl (by decide) rfl inT_X0 (by decide) k_5 tyX0 tyX0_ok nmX0 rfl rfl rfl g_1 rfl rfl (G_m e_5 ?_)
  refine g_aload_n C dX0_swap_36 2 rfl rfl ?_
  refine g_aload_n C dX0_swap_37 2 rfl rfl ?_
  refine g_getI (ci := 0) (j := 5) C dX0_swap_38 rfl (by decide) rfl inT_X0 (by decide) k_3 rfl g_1 ?_
  obtain ⟨m_6, e_6, h⟩ := wr_some h
  refine g_putI (ci := 0) (j := 2) C dX0_swap_41 rfl (by decide) rfl inT_X0 (by decide) k_2 tyX0 tyX0_ok nmX0 rfl rfl g_1 rfl rfl (G_m e_6 ?_)
  obtain rfl := Option.some.inj h
  exact hE 44 _ dX0_swap_44
theorem c_X0_swap (N : Nat) (l : Launch) (hst : l.stackTraces = false) (w : Om) (v0 : Nat) (m : Mem) (o : Mem) (h : f_X0_swap N v0 m = some o) : KV l yX0_swap cX0_swap 3 none 0 0 w [.ref (oa w v0)] m o := KV_of hst (by decide +kernel) RX0 rfl (Nat.le_of_ble_eq_true rfl) (fun Γ hw hl C hE => by
  subst hw; subst hl
  exact t_X0_swap N Γ C v0 m o h hE)
def Ex_X0_add_13 (Γ : Gc) (cs : Nat) (b : Nat × Mem) : Prop := (∀ (y0 : Nat) (m' : Mem), b = (y0, m') → G Γ 6 cs m' 112 [(0, .ref (oa (gw Γ) y0))] [])
set_option maxRecDepth 100000 in
set_option maxHeartbeats 4000000 in
theorem t_X0_add_59 (N : Nat) (Γ : Gc) (C : Cx Γ cX0_add 6 RX0 (rmK 1 23 0)) (rc : Nat → Int32 → Int32 → Int32 → Int32 → Int32 → Mem → Option (Nat × Mem)) (b : Nat × Mem) (hE : Ex_X0_add_13 Γ 0 b) (hrec : ∀ (v0 : Nat) (v1 : Int32) (v2 : Int32) (v3 : Int32) (v4 : Int32) (v5 : Int32) (m : Mem) (b : Nat × Mem), rc v0 v1 v2 v3 v4 v5 m = some b → Ex_X0_add_13 Γ 0 b → G Γ 6 0 m 13 [(0, .ref (oa (gw Γ) v0)), (1, .int v1), (2, .int v2), (3, .int v3), (4, .int v4), (5, .int v5)] []) (v0 : Nat) (v1 : Int32) (v2 : Int32) (v3 : Int32) (v4 : Int32) (v5 : Int32) (m : Mem) (h : B_X0_add_59 N rc v0 v1 v2 v3 v4 v5 m = some b) : G Γ 6 0 m 59 [(0, .ref (oa (gw Γ) v0)), (1, .int v1), (2, .int v2), (3, .int v3), (4, .int v4), (5, .int v5)] [] := by
  unfold B_X0_add_59 at h
  refine g_aload_n C dX0_add_59 0 rfl rfl ?_
  refine g_aload_n C dX0_add_60 0 rfl rfl ?_
  obtain ⟨g_4, h⟩ := gd_some h
  refine g_getR (ci := 0) (j := 0) C dX0_add_61 rfl (by decide) rfl inT_X0 (by decide) k_0 rfl rfl g_4 ?_
  refine g_iload_n C dX0_add_64 3 rfl rfl ?_
  obtain ⟨g_5, h⟩ := gd_some h
  refine g_iald C dX0_add_65 g_5 ?_
  refine g_aload_n C dX0_add_66 0 rfl rfl ?_
  refine g_getR (ci := 0) (j := 1) C dX0_add_67 rfl (by decide) rfl inT_X0 (by decide) k_1 rfl rfl g_4 ?_
  refine g_iload_n C dX0_add_70 3 rfl rfl ?_
  obtain ⟨g_6, h⟩ := gd_some h
  refine g_iald C dX0_add_71 g_6 ?_
  obtain ⟨m_7, hk_7, h⟩ := b1_some h
  refine g_vV (As := [.int (gI m (gR m v0 0) v3.toNatClampNeg), .int (gI m (gR m v0 1) v3.toNatClampNeg)]) (a := v0) (ci := 0) C dX0_add_72 mf_X0_keep k_6 rfl (by decide) ⟨by decide, by decide⟩ rfl rfl (Nat.le_of_ble_eq_true rfl) (by decide) g_4 (c_X0_keep N (gl Γ) C.2.2.2.2 (gw Γ) v0 (gI m (gR m v0 0) v3.toNatClampNeg) (gI m (gR m v0 1) v3.toNatClampNeg) m _ hk_7) ?_
  refine g_iinc (q := 3) (v := v3 + (1 : Int32)) (lv' := [(3, .int (v3 + (1 : Int32))), (0, .ref (oa (gw Γ) v0)), (1, .int v1), (2, .int v2), (4, .int v4), (5, .int v5)]) C dX0_add_75 rfl rfl (by decide) rfl ?_
  refine g_goto (tgt := 106) C dX0_add_78 (by decide) ?_
  refine g_iinc (q := 5) (v := v5 + (1 : Int32)) (lv' := [(5, .int (v5 + (1 : Int32))), (3, .int (v3 + (1 : Int32))), (0, .ref (oa (gw Γ) v0)), (1, .int v1), (2, .int v2), (4, .int v4)]) C dX0_add_106 rfl rfl (by decide) rfl ?_
  refine g_goto (tgt := 13) C dX0_add_109 (by decide) ?_
  refine g_sub [2, 3, 4, 1, 5, 0] rfl ?_
  exact hrec v0 v1 v2 (v3 + (1 : Int32)) v4 (v5 + (1 : Int32)) m_7 b h hE
set_option maxRecDepth 100000 in
set_option maxHeartbeats 4000000 in
theorem t_X0_add_81 (N : Nat) (Γ : Gc) (C : Cx Γ cX0_add 6 RX0 (rmK 1 23 0)) (rc : Nat → Int32 → Int32 → Int32 → Int32 → Int32 → Mem → Option (Nat × Mem)) (b : Nat × Mem) (hE : Ex_X0_add_13 Γ 0 b) (hrec : ∀ (v0 : Nat) (v1 : Int32) (v2 : Int32) (v3 : Int32) (v4 : Int32) (v5 : Int32) (m : Mem) (b : Nat × Mem), rc v0 v1 v2 v3 v4 v5 m = some b → Ex_X0_add_13 Γ 0 b → G Γ 6 0 m 13 [(0, .ref (oa (gw Γ) v0)), (1, .int v1), (2, .int v2), (3, .int v3), (4, .int v4), (5, .int v5)] []) (v0 : Nat) (v1 : Int32) (v2 : Int32) (v3 : Int32) (v4 : Int32) (v5 : Int32) (m : Mem) (h : B_X0_add_81 N rc v0 v1 v2 v3 v4 v5 m = some b) : G Γ 6 0 m 81 [(0, .ref (oa (gw Γ) v0)), (1, .int v1), (2, .int v2), (3, .int v3), (4, .int v4), (5, .int v5)] [] := by
  unfold B_X0_add_81 at h
  refine g_aload_n C dX0_add_81 0 rfl rfl ?_
  refine g_aload_n C dX0_add_82 0 rfl rfl ?_
  obtain ⟨g_8, h⟩ := gd_some h
  refine g_getR (ci := 0) (j := 0) C dX0_add_83 rfl (by decide) rfl inT_X0 (by decide) k_0 rfl rfl g_8 ?_
  refine g_iload C dX0_add_86 4 rfl ?_
  obtain ⟨g_9, h⟩ := gd_some h
  refine g_iald C dX0_add_88 g_9 ?_
  refine g_iload_n C dX0_add_89 1 rfl rfl ?_
  refine g_iadd C dX0_add_90 ?_
  refine g_aload_n C dX0_add_91 0 rfl rfl ?_
  refine g_getR (ci := 0) (j := 1) C dX0_add_92 rfl (by decide) rfl inT_X0 (by decide) k_1 rfl rfl g_8 ?_
  refine g_iload C dX0_add_95 4 rfl ?_
  obtain ⟨g_10, h⟩ := gd_some h
  refine g_iald C dX0_add_97 g_10 ?_
  refine g_iload_n C dX0_add_98 2 rfl rfl ?_
  refine g_iadd C dX0_add_99 ?_
  obtain ⟨m_11, hk_11, h⟩ := b1_some h
  refine g_vV (As := [.int ((gI m (gR m v0 0) v4.toNatClampNeg) + v1), .int ((gI m (gR m v0 1) v4.toNatClampNeg) + v2)]) (a := v0) (ci := 0) C dX0_add_100 mf_X0_keep k_6 rfl (by decide) ⟨by decide, by decide⟩ rfl rfl (Nat.le_of_ble_eq_true rfl) (by decide) g_8 (c_X0_keep N (gl Γ) C.2.2.2.2 (gw Γ) v0 ((gI m (gR m v0 0) v4.toNatClampNeg) + v1) ((gI m (gR m v0 1) v4.toNatClampNeg) + v2) m _ hk_11) ?_
  refine g_iinc (q := 4) (v := v4 + (1 : Int32)) (lv' := [(4, .int (v4 + (1 : Int32))), (0, .ref (oa (gw Γ) v0)), (1, .int v1), (2, .int v2), (3, .int v3), (5, .int v5)]) C dX0_add_103 rfl rfl (by decide) rfl ?_
  refine g_iinc (q := 5) (v := v5 + (1 : Int32)) (lv' := [(5, .int (v5 + (1 : Int32))), (4, .int (v4 + (1 : Int32))), (0, .ref (oa (gw Γ) v0)), (1, .int v1), (2, .int v2), (3, .int v3)]) C dX0_add_106 rfl rfl (by decide) rfl ?_
  refine g_goto (tgt := 13) C dX0_add_109 (by decide) ?_
  refine g_sub [2, 3, 4, 5, 1, 0] rfl ?_
  exact hrec v0 v1 v2 v3 (v4 + (1 : Int32)) (v5 + (1 : Int32)) m_11 b h hE
set_option maxRecDepth 100000 in
set_option maxHeartbeats 4000000 in
theorem t_X0_add_13 (N : Nat) (Γ : Gc) (C : Cx Γ cX0_add 6 RX0 (rmK 1 23 0)) (rc : Nat → Int32 → Int32 → Int32 → Int32 → Int32 → Mem → Option (Nat × Mem)) (b : Nat × Mem) (hE : Ex_X0_add_13 Γ 0 b) (hrec : ∀ (v0 : Nat) (v1 : Int32) (v2 : Int32) (v3 : Int32) (v4 : Int32) (v5 : Int32) (m : Mem) (b : Nat × Mem), rc v0 v1 v2 v3 v4 v5 m = some b → Ex_X0_add_13 Γ 0 b → G Γ 6 0 m 13 [(0, .ref (oa (gw Γ) v0)), (1, .int v1), (2, .int v2), (3, .int v3), (4, .int v4), (5, .int v5)] []) (v0 : Nat) (v1 : Int32) (v2 : Int32) (v3 : Int32) (v4 : Int32) (v5 : Int32) (m : Mem) (h : T_X0_add_13 N rc v0 v1 v2 v3 v4 v5 m = some b) : G Γ 6 0 m 13 [(0, .ref (oa (gw Γ) v0)), (1, .int v1), (2, .int v2), (3, .int v3), (4, .int v4), (5, .int v5)] [] := by
  unfold T_X0_add_13 at h
  refine g_iload C dX0_add_13 5 rfl ?_
  refine g_iconst (v := (2 : Int32)) C dX0_add_15 (by decide) ?_
  refine g_aload_n C dX0_add_16 0 rfl rfl ?_
  obtain ⟨g_3, h⟩ := gd_some h
  refine g_getI (ci := 0) (j := 2) C dX0_add_17 rfl (by decide) rfl inT_X0 (by decide) k_2 rfl g_3 ?_
  refine g_imul C dX0_add_20 ?_
  refine g_icmp_ge (tgt := 112) C dX0_add_21 (by decide) (fun c_17 => ?_) (fun c_17 => ?_)
  · replace h := it_t c_17 h
    obtain rfl := Option.some.inj h
    refine g_sub [0] rfl ?_
    exact hE _ _ rfl
  · replace h := it_f c_17 h
    refine g_iload C dX0_add_24 4 rfl ?_
    refine g_aload_n C dX0_add_26 0 rfl rfl ?_
    refine g_getI (ci := 0) (j := 2) C dX0_add_27 rfl (by decide) rfl inT_X0 (by decide) k_2 rfl g_3 ?_
    refine g_icmp_ge (tgt := 59) C dX0_add_30 (by decide) (fun c_16 => ?_) (fun c_16 => ?_)
    · replace h := it_t c_16 h
      refine g_sub [0, 1, 2, 3, 4, 5] rfl ?_
      exact t_X0_add_59 N Γ C rc b hE hrec v0 v1 v2 v3 v4 v5 m h
    · replace h := it_f c_16 h
      refine g_iload_n C dX0_add_33 3 rfl rfl ?_
      refine g_aload_n C dX0_add_34 0 rfl rfl ?_
      refine g_getI (ci := 0) (j := 2) C dX0_add_35 rfl (by decide) rfl inT_X0 (by decide) k_2 rfl g_3 ?_
      refine g_icmp_ge (tgt := 81) C dX0_add_38 (by decide) (fun c_15 => ?_) (fun c_15 => ?_)
      · replace h := it_t c_15 h
        refine g_sub [0, 1, 2, 3, 4, 5] rfl ?_
        exact t_X0_add_81 N Γ C rc b hE hrec v0 v1 v2 v3 v4 v5 m h
      · replace h := it_f c_15 h
        refine g_aload_n C dX0_add_41 0 rfl rfl ?_
        refine g_getR (ci := 0) (j := 0) C dX0_add_42 rfl (by decide) rfl inT_X0 (by decide) k_0 rfl rfl g_3 ?_
        refine g_iload_n C dX0_add_45 3 rfl rfl ?_
        obtain ⟨g_12, h⟩ := gd_some h
        refine g_iald C dX0_add_46 g_12 ?_
        refine g_aload_n C dX0_add_47 0 rfl rfl ?_
        refine g_getR (ci := 0) (j := 0) C dX0_add_48 rfl (by decide) rfl inT_X0 (by decide) k_0 rfl rfl g_3 ?_
        refine g_iload C dX0_add_51 4 rfl ?_
        obtain ⟨g_13, h⟩ := gd_some h
        refine g_iald C dX0_add_53 g_13 ?_
        refine g_iload_n C dX0_add_54 1 rfl rfl ?_
        refine g_iadd C dX0_add_55 ?_
        refine g_icmp_gt (tgt := 81) C dX0_add_56 (by decide) (fun c_14 => ?_) (fun c_14 => ?_)
        · replace h := it_t c_14 h
          refine g_sub [0, 1, 2, 3, 4, 5] rfl ?_
          exact t_X0_add_81 N Γ C rc b hE hrec v0 v1 v2 v3 v4 v5 m h
        · replace h := it_f c_14 h
          refine g_sub [0, 1, 2, 3, 4, 5] rfl ?_
          exact t_X0_add_59 N Γ C rc b hE hrec v0 v1 v2 v3 v4 v5 m h
theorem lt_X0_add_13 (N : Nat) (Γ : Gc) (C : Cx Γ cX0_add 6 RX0 (rmK 1 23 0)) : ∀ (n : Nat) (v0 : Nat) (v1 : Int32) (v2 : Int32) (v3 : Int32) (v4 : Int32) (v5 : Int32) (m : Mem) (b : Nat × Mem), L_X0_add_13 N n v0 v1 v2 v3 v4 v5 m = some b → Ex_X0_add_13 Γ 0 b → G Γ 6 0 m 13 [(0, .ref (oa (gw Γ) v0)), (1, .int v1), (2, .int v2), (3, .int v3), (4, .int v4), (5, .int v5)] [] := by
  intro n
  induction n with
  | zero =>
    intro v0 v1 v2 v3 v4 v5 m b h
    have h9 : (none : Option (Nat × Mem)) = some b := h
    cases h9
  | succ n ih => intro v0 v1 v2 v3 v4 v5 m b h hE; exact t_X0_add_13 N Γ C (L_X0_add_13 N n) b hE ih v0 v1 v2 v3 v4 v5 m h
set_option maxRecDepth 100000 in
set_option maxHeartbeats 4000000 in
theorem t_X0_add (N : Nat) (Γ : Gc) (C : Cx Γ cX0_add 6 RX0 (rmK 1 23 0)) (v0 : Nat) (v1 : Int32) (v2 : Int32) (m : Mem) (b : Mem) (h : f_X0_add N v0 v1 v2 m = some b) (hE : EVn Γ 6 cX0_add b) : G Γ 6 0 m 0 [(0, .ref (oa (gw Γ) v0)), (1, .int v1), (2, .int v2)] [] := by
  unfold f_X0_add at h
  refine g_aload_n C dX0_add_0 0 rfl rfl ?_
  refine g_iconst (v := (0 : Int32)) C dX0_add_1 (by decide) ?_
  obtain ⟨g_1, h⟩ := gd_some h
  obtain ⟨m_2, e_2, h⟩ := wr_some h
  refine g_putI (ci := 0) (j := 5) C dX0_add_2 rfl (by decide) rfl inT_X0 (by decide) k_3 tyX0 tyX0_ok nmX0 rfl rfl g_1 rfl rfl (G_m e_2 ?_)
  refine g_iconst (v := (0 : Int32)) C dX0_add_5 (by decide) ?_
  refine g_istore_n (lv' := [(3, .int (0 : Int32)), (0, .ref (oa (gw Γ) v0)), (1, .int v1), (2, .int v2)]) C dX0_add_6 rfl (by decide) rfl ?_
  refine g_iconst (v := (0 : Int32)) C dX0_add_7 (by decide) ?_
  refine g_istore (lv' := [(4, .int (0 : Int32)), (3, .int (0 : Int32)), (0, .ref (oa (gw Γ) v0)), (1, .int v1), (2, .int v2)]) C dX0_add_8 (by decide) rfl ?_
  refine g_iconst (v := (0 : Int32)) C dX0_add_10 (by decide) ?_
  refine g_istore (lv' := [(5, .int (0 : Int32)), (4, .int (0 : Int32)), (3, .int (0 : Int32)), (0, .ref (oa (gw Γ) v0)), (1, .int v1), (2, .int v2)]) C dX0_add_11 (by decide) rfl ?_
  obtain ⟨v0_18, m_18, hx, h⟩ := l2_some h
  refine g_sub [3, 4, 5, 2, 1, 0] rfl ?_
  refine lt_X0_add_13 N Γ C N v0 v1 v2 (0 : Int32) (0 : Int32) (0 : Int32) m_2 _ hx ?_
  intro z0 m9 e9
  cases e9
  refine g_aload_n C dX0_add_112 0 rfl rfl ?_
  obtain ⟨g_19, h⟩ := gd_some h
  obtain ⟨m_20, hk_20, h⟩ := b1_some h
  refine g_vV (As := []) (a := v0_18) (ci := 0) C dX0_add_113 mf_X0_swap k_11 rfl (by decide) ⟨by decide, by decide⟩ rfl rfl (Nat.le_of_ble_eq_true rfl) (by decide) g_19 (c_X0_swap N (gl Γ) C.2.2.2.2 (gw Γ) v0_18 m_18 _ hk_20) ?_
  obtain rfl := Option.some.inj h
  exact hE 116 _ dX0_add_116
theorem c_X0_add (N : Nat) (l : Launch) (hst : l.stackTraces = false) (w : Om) (v0 : Nat) (v1 : Int32) (v2 : Int32) (m : Mem) (o : Mem) (h : f_X0_add N v0 v1 v2 m = some o) : KV l yX0_add cX0_add 6 none 1 23 w [.ref (oa w v0), .int v1, .int v2] m o := KV_of hst (by decide +kernel) RX0 rfl (Nat.le_of_ble_eq_true rfl) (fun Γ hw hl C hE => by
  subst hw; subst hl
  exact t_X0_add N Γ C v0 v1 v2 m o h hE)
def Ex_J7_fill_53178_5 (Γ : Gc) (cs : Nat) (b : Mem) : Prop := (∀  (m' : Mem), b = m' → G Γ 4 cs m' 20 [] [])
set_option maxRecDepth 100000 in
set_option maxHeartbeats 4000000 in
theorem t_J7_fill_53178_5 (N : Nat) (Γ : Gc) (C : Cx Γ cJ7_fill_53178 4 RJ7 (rmK 0 0 0)) (rc : Nat → Int32 → Int32 → Int32 → Mem → Option (Mem)) (b : Mem) (hE : Ex_J7_fill_53178_5 Γ 0 b) (hrec : ∀ (v0 : Nat) (v1 : Int32) (v2 : Int32) (v3 : Int32) (m : Mem) (b : Mem), rc v0 v1 v2 v3 m = some b → Ex_J7_fill_53178_5 Γ 0 b → G Γ 4 0 m 5 [(0, .ref (oa (gw Γ) v0)), (1, .int v1), (2, .int v2), (3, .int v3)] []) (v0 : Nat) (v1 : Int32) (v2 : Int32) (v3 : Int32) (m : Mem) (h : T_J7_fill_53178_5 N rc v0 v1 v2 v3 m = some b) : G Γ 4 0 m 5 [(0, .ref (oa (gw Γ) v0)), (1, .int v1), (2, .int v2), (3, .int v3)] [] := by
  unfold T_J7_fill_53178_5 at h
  refine g_iload_n C dJ7_fill_53178_5 2 rfl rfl ?_
  refine g_iload_n C dJ7_fill_53178_6 3 rfl rfl ?_
  refine g_icmp_ge (tgt := 20) C dJ7_fill_53178_7 (by decide) (fun c_4 => ?_) (fun c_4 => ?_)
  · replace h := it_t c_4 h
    obtain rfl := Option.some.inj h
    refine g_sub [] rfl ?_
    exact hE _ rfl
  · replace h := it_f c_4 h
    refine g_aload_n C dJ7_fill_53178_10 0 rfl rfl ?_
    refine g_iload_n C dJ7_fill_53178_11 2 rfl rfl ?_
    refine g_iload_n C dJ7_fill_53178_12 1 rfl rfl ?_
    obtain ⟨g_2, h⟩ := gd_some h
    obtain ⟨m_3, e_3, h⟩ := wr_some h
    refine g_iast C dJ7_fill_53178_13 g_2 (G_m e_3 ?_)
    refine g_iinc (q := 2) (v := v2 + (1 : Int32)) (lv' := [(2, .int (v2 + (1 : Int32))), (0, .ref (oa (gw Γ) v0)), (1, .int v1), (3, .int v3)]) C dJ7_fill_53178_14 rfl rfl (by decide) rfl ?_
    refine g_goto (tgt := 5) C dJ7_fill_53178_17 (by decide) ?_
    refine g_sub [1, 2, 0, 3] rfl ?_
    exact hrec v0 v1 (v2 + (1 : Int32)) v3 m_3 b h hE
theorem lt_J7_fill_53178_5 (N : Nat) (Γ : Gc) (C : Cx Γ cJ7_fill_53178 4 RJ7 (rmK 0 0 0)) : ∀ (n : Nat) (v0 : Nat) (v1 : Int32) (v2 : Int32) (v3 : Int32) (m : Mem) (b : Mem), L_J7_fill_53178_5 N n v0 v1 v2 v3 m = some b → Ex_J7_fill_53178_5 Γ 0 b → G Γ 4 0 m 5 [(0, .ref (oa (gw Γ) v0)), (1, .int v1), (2, .int v2), (3, .int v3)] [] := by
  intro n
  induction n with
  | zero =>
    intro v0 v1 v2 v3 m b h
    have h9 : (none : Option (Mem)) = some b := h
    cases h9
  | succ n ih => intro v0 v1 v2 v3 m b h hE; exact t_J7_fill_53178_5 N Γ C (L_J7_fill_53178_5 N n) b hE ih v0 v1 v2 v3 m h
set_option maxRecDepth 100000 in
set_option maxHeartbeats 4000000 in
theorem t_J7_fill_53178 (N : Nat) (Γ : Gc) (C : Cx Γ cJ7_fill_53178 4 RJ7 (rmK 0 0 0)) (v0 : Nat) (v1 : Int32) (m : Mem) (b : Mem) (h : f_J7_fill_53178 N v0 v1 m = some b) (hE : EVn Γ 4 cJ7_fill_53178 b) : G Γ 4 0 m 0 [(0, .ref (oa (gw Γ) v0)), (1, .int v1)] [] := by
  unfold f_J7_fill_53178 at h
  refine g_iconst (v := (0 : Int32)) C dJ7_fill_53178_0 (by decide) ?_
  refine g_istore_n (lv' := [(2, .int (0 : Int32)), (0, .ref (oa (gw Γ) v0)), (1, .int v1)]) C dJ7_fill_53178_1 rfl (by decide) rfl ?_
  refine g_aload_n C dJ7_fill_53178_2 1 rfl rfl ?_
  obtain ⟨g_1, h⟩ := gd_some h
  refine g_alen C dJ7_fill_53178_3 g_1 ?_
  refine g_istore_n (lv' := [(3, .int (Int32.ofNat (ln v0))), (2, .int (0 : Int32)), (0, .ref (oa (gw Γ) v0)), (1, .int v1)]) C dJ7_fill_53178_4 rfl (by decide) rfl ?_
  obtain ⟨m_5, hx, h⟩ := l1_some h
  refine g_sub [2, 3, 1, 0] rfl ?_
  refine lt_J7_fill_53178_5 N Γ C N v0 v1 (0 : Int32) (Int32.ofNat (ln v0)) m _ hx ?_
  intro  m9 e9
  cases e9
  obtain rfl := Option.some.inj h
  exact hE 20 _ dJ7_fill_53178_20
theorem c_J7_fill_53178 (N : Nat) (l : Launch) (hst : l.stackTraces = false) (w : Om) (v0 : Nat) (v1 : Int32) (m : Mem) (o : Mem) (h : f_J7_fill_53178 N v0 v1 m = some o) : KV l yJ7_fill_53178 cJ7_fill_53178 4 none 0 0 w [.ref (oa w v0), .int v1] m o := KV_of hst (by decide +kernel) RJ7 rfl (Nat.le_of_ble_eq_true rfl) (fun Γ hw hl C hE => by
  subst hw; subst hl
  exact t_J7_fill_53178 N Γ C v0 v1 m o h hE)
def Ex_X1_fundFromPool_3 (Γ : Gc) (cs : Nat) (b : Mem) : Prop := (∀  (m' : Mem), b = m' → G Γ 6 cs m' 92 [] [])
set_option maxRecDepth 100000 in
set_option maxHeartbeats 4000000 in
theorem t_X1_fundFromPool_3 (N : Nat) (Γ : Gc) (C : Cx Γ cX1_fundFromPool 6 RX1 (rmK 0 0 0)) (rc : Nat → Int32 → Int32 → Mem → Option (Mem)) (b : Mem) (hE : Ex_X1_fundFromPool_3 Γ 0 b) (hrec : ∀ (v1 : Nat) (v3 : Int32) (v4 : Int32) (m : Mem) (b : Mem), rc v1 v3 v4 m = some b → Ex_X1_fundFromPool_3 Γ 0 b → G Γ 6 0 m 3 [(0, .ref (oa (gw Γ) 48)), (1, .ref (oa (gw Γ) v1)), (2, .ref (oa (gw Γ) 38)), (3, .int v3), (4, .int v4)] []) (v1 : Nat) (v3 : Int32) (v4 : Int32) (m : Mem) (h : T_X1_fundFromPool_3 N rc v1 v3 v4 m = some b) : G Γ 6 0 m 3 [(0, .ref (oa (gw Γ) 48)), (1, .ref (oa (gw Γ) v1)), (2, .ref (oa (gw Γ) 38)), (3, .int v3), (4, .int v4)] [] := by
  unfold T_X1_fundFromPool_3 at h
  refine g_iload C dX1_fundFromPool_3 4 rfl ?_
  refine g_aload_n C dX1_fundFromPool_5 2 rfl rfl ?_
  refine g_getI (ci := 5) (j := 9) C dX1_fundFromPool_6 rfl (by decide) rfl inT_X5 (by decide) k_15 rfl rfl ?_
  refine g_icmp_ge (tgt := 92) C dX1_fundFromPool_9 (by decide) (fun c_10 => ?_) (fun c_10 => ?_)
  · replace h := it_t c_10 h
    obtain rfl := Option.some.inj h
    refine g_sub [] rfl ?_
    exact hE _ rfl
  · replace h := it_f c_10 h
    refine g_aload_n C dX1_fundFromPool_12 2 rfl rfl ?_
    refine g_getT (b := 47) (ci := 5) (j := 8) C dX1_fundFromPool_13 rfl (by decide) rfl inT_X5 (by decide) k_16 rfl rfl rfl rfl ?_
    refine g_iload C dX1_fundFromPool_16 4 rfl ?_
    obtain ⟨g_1, h⟩ := gd_some h
    refine g_iald C dX1_fundFromPool_18 (okA_of rfl rfl g_1) ?_
    refine g_istore (lv' := [(5, .int (gI m 47 v4.toNatClampNeg)), (0, .ref (oa (gw Γ) 48)), (1, .ref (oa (gw Γ) v1)), (2, .ref (oa (gw Γ) 38)), (3, .int v3), (4, .int v4)]) C dX1_fundFromPool_19 (by decide) rfl ?_
    refine g_aload_n C dX1_fundFromPool_21 3 rfl rfl ?_
    refine g_getT (b := 43) (ci := 5) (j := 4) C dX1_fundFromPool_22 rfl (by decide) rfl inT_X5 (by decide) k_17 rfl rfl rfl rfl ?_
    refine g_iload C dX1_fundFromPool_25 0 rfl ?_
    obtain ⟨g_2, h⟩ := gd_some h
    refine g_iald C dX1_fundFromPool_27 (okA_of rfl rfl g_2) ?_
    refine g_iload_n C dX1_fundFromPool_28 4 rfl rfl ?_
    refine g_icmp_lt (tgt := 86) C dX1_fundFromPool_29 (by decide) (fun c_9 => ?_) (fun c_9 => ?_)
    · replace h := it_t c_9 h
      refine g_iinc (q := 5) (v := v4 + (1 : Int32)) (lv' := [(4, .int (v4 + (1 : Int32))), (5, .int (gI m 47 v4.toNatClampNeg)), (0, .ref (oa (gw Γ) 48)), (1, .ref (oa (gw Γ) v1)), (2, .ref (oa (gw Γ) 38)), (3, .int v3)]) C dX1_fundFromPool_86 rfl rfl (by decide) rfl ?_
      refine g_goto (tgt := 3) C dX1_fundFromPool_89 (by decide) ?_
      refine g_sub [2, 3, 4, 5, 0] rfl ?_
      exact hrec v1 v3 (v4 + (1 : Int32)) m b h hE
    · replace h := it_f c_9 h
      refine g_aload_n C dX1_fundFromPool_32 1 rfl rfl ?_
      refine g_getT (b := 49) (ci := 1) (j := 0) C dX1_fundFromPool_33 rfl (by decide) rfl inT_X1 (by decide) k_18 rfl rfl rfl rfl ?_
      refine g_iload C dX1_fundFromPool_36 0 rfl ?_
      refine g_iald C dX1_fundFromPool_38 (okA_of rfl rfl g_2) ?_
      refine g_if_ne (tgt := 86) C dX1_fundFromPool_39 (by decide) (fun c_8 => ?_) (fun c_8 => ?_)
      · replace h := it_f c_8 h
        refine g_iinc (q := 5) (v := v4 + (1 : Int32)) (lv' := [(4, .int (v4 + (1 : Int32))), (5, .int (gI m 47 v4.toNatClampNeg)), (0, .ref (oa (gw Γ) 48)), (1, .ref (oa (gw Γ) v1)), (2, .ref (oa (gw Γ) 38)), (3, .int v3)]) C dX1_fundFromPool_86 rfl rfl (by decide) rfl ?_
        refine g_goto (tgt := 3) C dX1_fundFromPool_89 (by decide) ?_
        refine g_sub [2, 3, 4, 5, 0] rfl ?_
        exact hrec v1 v3 (v4 + (1 : Int32)) m b h hE
      · replace h := it_t c_8 h
        refine g_aload_n C dX1_fundFromPool_42 2 rfl rfl ?_
        obtain ⟨g_3, h⟩ := gd_some h
        refine g_getT (b := rt v1 12) (ci := 6) (j := 12) C dX1_fundFromPool_43 rfl (by decide) rfl inT_X6 (by decide) k_19 rfl rfl rfl g_3 ?_
        refine g_iload C dX1_fundFromPool_46 0 rfl ?_
        obtain ⟨g_4, h⟩ := gd_some h
        refine g_iald C dX1_fundFromPool_48 g_4 ?_
        refine g_aload_n C dX1_fundFromPool_49 1 rfl rfl ?_
        refine g_getI (ci := 1) (j := 2) C dX1_fundFromPool_50 rfl (by decide) rfl inT_X1 (by decide) k_20 rfl rfl ?_
        refine g_icmp_gt (tgt := 86) C dX1_fundFromPool_53 (by decide) (fun c_7 => ?_) (fun c_7 => ?_)
        · replace h := it_t c_7 h
          refine g_iinc (q := 5) (v := v4 + (1 : Int32)) (lv' := [(4, .int (v4 + (1 : Int32))), (5, .int (gI m 47 v4.toNatClampNeg)), (0, .ref (oa (gw Γ) 48)), (1, .ref (oa (gw Γ) v1)), (2, .ref (oa (gw Γ) 38)), (3, .int v3)]) C dX1_fundFromPool_86 rfl rfl (by decide) rfl ?_
          refine g_goto (tgt := 3) C dX1_fundFromPool_89 (by decide) ?_
          refine g_sub [2, 3, 4, 5, 0] rfl ?_
          exact hrec v1 v3 (v4 + (1 : Int32)) m b h hE
        · replace h := it_f c_7 h
          refine g_aload_n C dX1_fundFromPool_56 1 rfl rfl ?_
          refine g_getT (b := 49) (ci := 1) (j := 0) C dX1_fundFromPool_57 rfl (by decide) rfl inT_X1 (by decide) k_18 rfl rfl rfl rfl ?_
          refine g_iload C dX1_fundFromPool_60 0 rfl ?_
          refine g_aload_n C dX1_fundFromPool_62 2 rfl rfl ?_
          refine g_getT (b := rt v1 12) (ci := 6) (j := 12) C dX1_fundFromPool_63 rfl (by decide) rfl inT_X6 (by decide) k_19 rfl rfl rfl g_3 ?_
          refine g_iload C dX1_fundFromPool_66 0 rfl ?_
          refine g_iald C dX1_fundFromPool_68 g_4 ?_
          obtain ⟨m_5, e_5, h⟩ := wr_some h
          refine g_iast C dX1_fundFromPool_69 (okA_of rfl rfl g_2) (G_m e_5 ?_)
          refine g_aload_n C dX1_fundFromPool_70 1 rfl rfl ?_
          refine g_dup C dX1_fundFromPool_71 rfl ?_
          refine g_getI (ci := 1) (j := 2) C dX1_fundFromPool_72 rfl (by decide) rfl inT_X1 (by decide) k_20 rfl rfl ?_
          refine g_aload_n C dX1_fundFromPool_75 1 rfl rfl ?_
          refine g_getT (b := 49) (ci := 1) (j := 0) C dX1_fundFromPool_76 rfl (by decide) rfl inT_X1 (by decide) k_18 rfl rfl rfl rfl ?_
          refine g_iload C dX1_fundFromPool_79 0 rfl ?_
          refine g_iald C dX1_fundFromPool_81 (okA_of rfl rfl g_2) ?_
          refine g_isub C dX1_fundFromPool_82 ?_
          obtain ⟨m_6, e_6, h⟩ := wr_some h
          refine g_putI (ci := 1) (j := 2) C dX1_fundFromPool_83 rfl (by decide) rfl inT_X1 (by decide) k_20 tyX1 tyX1_ok nmX1 rfl rfl rfl rfl rfl (G_m e_6 ?_)
          refine g_iinc (q := 5) (v := v4 + (1 : Int32)) (lv' := [(4, .int (v4 + (1 : Int32))), (5, .int (gI m 47 v4.toNatClampNeg)), (0, .ref (oa (gw Γ) 48)), (1, .ref (oa (gw Γ) v1)), (2, .ref (oa (gw Γ) 38)), (3, .int v3)]) C dX1_fundFromPool_86 rfl rfl (by decide) rfl ?_
          refine g_goto (tgt := 3) C dX1_fundFromPool_89 (by decide) ?_
          refine g_sub [2, 3, 4, 5, 0] rfl ?_
          exact hrec v1 v3 (v4 + (1 : Int32)) m_6 b h hE
theorem lt_X1_fundFromPool_3 (N : Nat) (Γ : Gc) (C : Cx Γ cX1_fundFromPool 6 RX1 (rmK 0 0 0)) : ∀ (n : Nat) (v1 : Nat) (v3 : Int32) (v4 : Int32) (m : Mem) (b : Mem), L_X1_fundFromPool_3 N n v1 v3 v4 m = some b → Ex_X1_fundFromPool_3 Γ 0 b → G Γ 6 0 m 3 [(0, .ref (oa (gw Γ) 48)), (1, .ref (oa (gw Γ) v1)), (2, .ref (oa (gw Γ) 38)), (3, .int v3), (4, .int v4)] [] := by
  intro n
  induction n with
  | zero =>
    intro v1 v3 v4 m b h
    have h9 : (none : Option (Mem)) = some b := h
    cases h9
  | succ n ih => intro v1 v3 v4 m b h hE; exact t_X1_fundFromPool_3 N Γ C (L_X1_fundFromPool_3 N n) b hE ih v1 v3 v4 m h
set_option maxRecDepth 100000 in
set_option maxHeartbeats 4000000 in
theorem t_X1_fundFromPool (N : Nat) (Γ : Gc) (C : Cx Γ cX1_fundFromPool 6 RX1 (rmK 0 0 0)) (v1 : Nat) (v3 : Int32) (m : Mem) (b : Mem) (h : f_X1_fundFromPool N v1 v3 m = some b) (hE : EVn Γ 6 cX1_fundFromPool b) : G Γ 6 0 m 0 [(0, .ref (oa (gw Γ) 48)), (1, .ref (oa (gw Γ) v1)), (2, .ref (oa (gw Γ) 38)), (3, .int v3)] [] := by
  unfold f_X1_fundFromPool at h
  refine g_iconst (v := (0 : Int32)) C dX1_fundFromPool_0 (by decide) ?_
  refine g_istore (lv' := [(4, .int (0 : Int32)), (0, .ref (oa (gw Γ) 48)), (1, .ref (oa (gw Γ) v1)), (2, .ref (oa (gw Γ) 38)), (3, .int v3)]) C dX1_fundFromPool_1 (by decide) rfl ?_
  obtain ⟨m_11, hx, h⟩ := l1_some h
  refine g_sub [1, 2, 3, 4, 0] rfl ?_
  refine lt_X1_fundFromPool_3 N Γ C N v1 v3 (0 : Int32) m _ hx ?_
  intro  m9 e9
  cases e9
  obtain rfl := Option.some.inj h
  exact hE 92 _ dX1_fundFromPool_92
theorem c_X1_fundFromPool (N : Nat) (l : Launch) (hst : l.stackTraces = false) (w : Om) (v1 : Nat) (v3 : Int32) (m : Mem) (o : Mem) (h : f_X1_fundFromPool N v1 v3 m = some o) : KV l yX1_fundFromPool cX1_fundFromPool 6 none 0 0 w [.ref (oa w 48), .ref (oa w v1), .ref (oa w 38), .int v3] m o := KV_of hst (by decide +kernel) RX1 rfl (Nat.le_of_ble_eq_true rfl) (fun Γ hw hl C hE => by
  subst hw; subst hl
  exact t_X1_fundFromPool N Γ C v1 v3 m o h hE)
set_option maxRecDepth 100000 in
set_option maxHeartbeats 4000000 in
theorem t_X1_panelShare_21 (N : Nat) (Γ : Gc) (C : Cx Γ cX1_panelShare 4 RX1 (rmK 0 0 0)) (b : Int32 × Mem) (hE : EIn Γ 4 cX1_panelShare b)  (m : Mem) (h : B_X1_panelShare_21 N  m = some b) : G Γ 4 0 m 21 [] [] := by
  unfold B_X1_panelShare_21 at h
  refine g_iconst (v := (0 : Int32)) C dX1_panelShare_21 (by decide) ?_
  obtain rfl := Option.some.inj h
  exact hE 22 _ dX1_panelShare_22
set_option maxRecDepth 100000 in
set_option maxHeartbeats 4000000 in
theorem t_X1_panelShare (N : Nat) (Γ : Gc) (C : Cx Γ cX1_panelShare 4 RX1 (rmK 0 0 0)) (v0 : Int32) (v1 : Int32) (v2 : Int32) (v3 : Int32) (m : Mem) (b : Int32 × Mem) (h : f_X1_panelShare N v0 v1 v2 v3 m = some b) (hE : EIn Γ 4 cX1_panelShare b) : G Γ 4 0 m 0 [(0, .int v0), (1, .int v1), (2, .int v2), (3, .int v3)] [] := by
  unfold f_X1_panelShare at h
  refine g_iload_n C dX1_panelShare_0 2 rfl rfl ?_
  refine g_iload_n C dX1_panelShare_1 1 rfl rfl ?_
  refine g_icmp_gt (tgt := 7) C dX1_panelShare_2 (by decide) (fun c_3 => ?_) (fun c_3 => ?_)
  · replace h := it_t c_3 h
    refine g_iload_n C dX1_panelShare_7 0 rfl rfl ?_
    refine g_iconst (v := (2 : Int32)) C dX1_panelShare_8 (by decide) ?_
    refine g_icmp_ne (tgt := 21) C dX1_panelShare_9 (by decide) (fun c_2 => ?_) (fun c_2 => ?_)
    · replace h := it_f c_2 h
      refine g_sub [] rfl ?_
      exact t_X1_panelShare_21 N Γ C b hE  m h
    · replace h := it_t c_2 h
      refine g_iload_n C dX1_panelShare_12 3 rfl rfl ?_
      refine g_iload_n C dX1_panelShare_13 1 rfl rfl ?_
      refine g_icmp_gt (tgt := 21) C dX1_panelShare_14 (by decide) (fun c_1 => ?_) (fun c_1 => ?_)
      · replace h := it_t c_1 h
        refine g_sub [] rfl ?_
        exact t_X1_panelShare_21 N Γ C b hE  m h
      · replace h := it_f c_1 h
        refine g_iload_n C dX1_panelShare_17 1 rfl rfl ?_
        refine g_goto (tgt := 22) C dX1_panelShare_18 (by decide) ?_
        obtain rfl := Option.some.inj h
        exact hE 22 _ dX1_panelShare_22
  · replace h := it_f c_3 h
    refine g_iload_n C dX1_panelShare_5 2 rfl rfl ?_
    obtain rfl := Option.some.inj h
    exact hE 6 _ dX1_panelShare_6
theorem c_X1_panelShare (N : Nat) (l : Launch) (hst : l.stackTraces = false) (w : Om) (v0 : Int32) (v1 : Int32) (v2 : Int32) (v3 : Int32) (m : Mem) (o : Int32 × Mem) (h : f_X1_panelShare N v0 v1 v2 v3 m = some o) : KI l yX1_panelShare cX1_panelShare 4 (some .int) 0 0 w [.int v0, .int v1, .int v2, .int v3] m o.1 o.2 := KI_of hst (by decide +kernel) RX1 rfl (Nat.le_of_ble_eq_true rfl) (fun Γ hw hl C hE => by
  subst hw; subst hl
  exact t_X1_panelShare N Γ C v0 v1 v2 v3 m o h hE)
def Ex_X1_fundPanel_15 (Γ : Gc) (cs : Nat) (b : Int32 × Int32 × Mem) : Prop := (∀ (y5 : Int32) (y6 : Int32) (m' : Mem), b = (y5, y6, m') → G Γ 10 cs m' 136 [(0, .ref (oa (gw Γ) 48)), (5, .int y5), (6, .int y6)] [])
set_option maxRecDepth 100000 in
set_option maxHeartbeats 4000000 in
theorem t_X1_fundPanel_128 (N : Nat) (Γ : Gc) (C : Cx Γ cX1_fundPanel 10 RX1 (rmK 1 23 0)) (rc : Nat → Int32 → Int32 → Int32 → Int32 → Int32 → Int32 → Mem → Option (Int32 × Int32 × Mem)) (b : Int32 × Int32 × Mem) (hE : Ex_X1_fundPanel_15 Γ 0 b) (hrec : ∀ (v1 : Nat) (v3 : Int32) (v4 : Int32) (v5 : Int32) (v6 : Int32) (v7 : Int32) (v8 : Int32) (m : Mem) (b : Int32 × Int32 × Mem), rc v1 v3 v4 v5 v6 v7 v8 m = some b → Ex_X1_fundPanel_15 Γ 0 b → G Γ 10 0 m 15 [(0, .ref (oa (gw Γ) 48)), (1, .ref (oa (gw Γ) v1)), (2, .ref (oa (gw Γ) 38)), (3, .int v3), (4, .int v4), (5, .int v5), (6, .int v6), (7, .int v7), (8, .int v8)] []) (v1 : Nat) (v3 : Int32) (v4 : Int32) (v5 : Int32) (v6 : Int32) (v8 : Int32) (s0 : Int32) (m : Mem) (h : B_X1_fundPanel_128 N rc v1 v3 v4 v5 v6 v8 s0 m = some b) : G Γ 10 0 m 128 [(0, .ref (oa (gw Γ) 48)), (1, .ref (oa (gw Γ) v1)), (2, .ref (oa (gw Γ) 38)), (3, .int v3), (4, .int v4), (5, .int v5), (6, .int v6), (8, .int v8)] [.int s0] := by
  unfold B_X1_fundPanel_128 at h
  refine g_istore (lv' := [(7, .int s0), (0, .ref (oa (gw Γ) 48)), (1, .ref (oa (gw Γ) v1)), (2, .ref (oa (gw Γ) 38)), (3, .int v3), (4, .int v4), (5, .int v5), (6, .int v6), (8, .int v8)]) C dX1_fundPanel_128 (by decide) rfl ?_
  refine g_iinc (q := 8) (v := v8 + (1 : Int32)) (lv' := [(8, .int (v8 + (1 : Int32))), (7, .int s0), (0, .ref (oa (gw Γ) 48)), (1, .ref (oa (gw Γ) v1)), (2, .ref (oa (gw Γ) 38)), (3, .int v3), (4, .int v4), (5, .int v5), (6, .int v6)]) C dX1_fundPanel_130 rfl rfl (by decide) rfl ?_
  refine g_goto (tgt := 15) C dX1_fundPanel_133 (by decide) ?_
  refine g_sub [2, 3, 4, 5, 6, 7, 8, 1, 0] rfl ?_
  exact hrec v1 v3 v4 v5 v6 s0 (v8 + (1 : Int32)) m b h hE
set_option maxRecDepth 100000 in
set_option maxHeartbeats 4000000 in
theorem t_X1_fundPanel_123 (N : Nat) (Γ : Gc) (C : Cx Γ cX1_fundPanel 10 RX1 (rmK 1 23 0)) (rc : Nat → Int32 → Int32 → Int32 → Int32 → Int32 → Int32 → Mem → Option (Int32 × Int32 × Mem)) (b : Int32 × Int32 × Mem) (hE : Ex_X1_fundPanel_15 Γ 0 b) (hrec : ∀ (v1 : Nat) (v3 : Int32) (v4 : Int32) (v5 : Int32) (v6 : Int32) (v7 : Int32) (v8 : Int32) (m : Mem) (b : Int32 × Int32 × Mem), rc v1 v3 v4 v5 v6 v7 v8 m = some b → Ex_X1_fundPanel_15 Γ 0 b → G Γ 10 0 m 15 [(0, .ref (oa (gw Γ) 48)), (1, .ref (oa (gw Γ) v1)), (2, .ref (oa (gw Γ) 38)), (3, .int v3), (4, .int v4), (5, .int v5), (6, .int v6), (7, .int v7), (8, .int v8)] []) (v1 : Nat) (v3 : Int32) (v4 : Int32) (v5 : Int32) (v6 : Int32) (v8 : Int32) (m : Mem) (h : B_X1_fundPanel_123 N rc v1 v3 v4 v5 v6 v8 m = some b) : G Γ 10 0 m 123 [(0, .ref (oa (gw Γ) 48)), (1, .ref (oa (gw Γ) v1)), (2, .ref (oa (gw Γ) 38)), (3, .int v3), (4, .int v4), (5, .int v5), (6, .int v6), (8, .int v8)] [] := by
  unfold B_X1_fundPanel_123 at h
  refine g_iconst (v := (1 : Int32)) C dX1_fundPanel_123 (by decide) ?_
  refine g_goto (tgt := 128) C dX1_fundPanel_124 (by decide) ?_
  refine g_sub [0, 1, 2, 3, 4, 5, 6, 7] rfl ?_
  exact t_X1_fundPanel_128 N Γ C rc b hE hrec v1 v3 v4 v5 v6 v8 (1 : Int32) m h
set_option maxRecDepth 100000 in
set_option maxHeartbeats 4000000 in
theorem t_X1_fundPanel_15 (N : Nat) (Γ : Gc) (C : Cx Γ cX1_fundPanel 10 RX1 (rmK 1 23 0)) (rc : Nat → Int32 → Int32 → Int32 → Int32 → Int32 → Int32 → Mem → Option (Int32 × Int32 × Mem)) (b : Int32 × Int32 × Mem) (hE : Ex_X1_fundPanel_15 Γ 0 b) (hrec : ∀ (v1 : Nat) (v3 : Int32) (v4 : Int32) (v5 : Int32) (v6 : Int32) (v7 : Int32) (v8 : Int32) (m : Mem) (b : Int32 × Int32 × Mem), rc v1 v3 v4 v5 v6 v7 v8 m = some b → Ex_X1_fundPanel_15 Γ 0 b → G Γ 10 0 m 15 [(0, .ref (oa (gw Γ) 48)), (1, .ref (oa (gw Γ) v1)), (2, .ref (oa (gw Γ) 38)), (3, .int v3), (4, .int v4), (5, .int v5), (6, .int v6), (7, .int v7), (8, .int v8)] []) (v1 : Nat) (v3 : Int32) (v4 : Int32) (v5 : Int32) (v6 : Int32) (v7 : Int32) (v8 : Int32) (m : Mem) (h : T_X1_fundPanel_15 N rc v1 v3 v4 v5 v6 v7 v8 m = some b) : G Γ 10 0 m 15 [(0, .ref (oa (gw Γ) 48)), (1, .ref (oa (gw Γ) v1)), (2, .ref (oa (gw Γ) 38)), (3, .int v3), (4, .int v4), (5, .int v5), (6, .int v6), (7, .int v7), (8, .int v8)] [] := by
  unfold T_X1_fundPanel_15 at h
  refine g_iload C dX1_fundPanel_15 8 rfl ?_
  refine g_aload_n C dX1_fundPanel_17 2 rfl rfl ?_
  refine g_getI (ci := 5) (j := 9) C dX1_fundPanel_18 rfl (by decide) rfl inT_X5 (by decide) k_15 rfl rfl ?_
  refine g_icmp_ge (tgt := 136) C dX1_fundPanel_21 (by decide) (fun c_16 => ?_) (fun c_16 => ?_)
  · replace h := it_t c_16 h
    obtain rfl := Option.some.inj h
    refine g_sub [0, 5, 6] rfl ?_
    exact hE _ _ _ rfl
  · replace h := it_f c_16 h
    refine g_iload C dX1_fundPanel_24 7 rfl ?_
    refine g_if_eq (tgt := 136) C dX1_fundPanel_26 (by decide) (fun c_15 => ?_) (fun c_15 => ?_)
    · replace h := it_t c_15 h
      obtain rfl := Option.some.inj h
      refine g_sub [0, 5, 6] rfl ?_
      exact hE _ _ _ rfl
    · replace h := it_f c_15 h
      refine g_aload_n C dX1_fundPanel_29 2 rfl rfl ?_
      refine g_getT (b := 47) (ci := 5) (j := 8) C dX1_fundPanel_30 rfl (by decide) rfl inT_X5 (by decide) k_16 rfl rfl rfl rfl ?_
      refine g_iload C dX1_fundPanel_33 8 rfl ?_
      obtain ⟨g_3, h⟩ := gd_some h
      refine g_iald C dX1_fundPanel_35 (okA_of rfl rfl g_3) ?_
      refine g_istore (lv' := [(9, .int (gI m 47 v8.toNatClampNeg)), (0, .ref (oa (gw Γ) 48)), (1, .ref (oa (gw Γ) v1)), (2, .ref (oa (gw Γ) 38)), (3, .int v3), (4, .int v4), (5, .int v5), (6, .int v6), (7, .int v7), (8, .int v8)]) C dX1_fundPanel_36 (by decide) rfl ?_
      refine g_aload_n C dX1_fundPanel_38 2 rfl rfl ?_
      obtain ⟨g_4, h⟩ := gd_some h
      refine g_getT (b := rt v1 9) (ci := 6) (j := 9) C dX1_fundPanel_39 rfl (by decide) rfl inT_X6 (by decide) k_22 rfl rfl rfl g_4 ?_
      refine g_iload C dX1_fundPanel_42 0 rfl ?_
      obtain ⟨g_5, h⟩ := gd_some h
      refine g_iald C dX1_fundPanel_44 g_5 ?_
      refine g_iload C dX1_fundPanel_45 6 rfl ?_
      refine g_icmp_ne (tgt := 130) C dX1_fundPanel_47 (by decide) (fun c_14 => ?_) (fun c_14 => ?_)
      · replace h := it_f c_14 h
        refine g_iinc (q := 9) (v := v8 + (1 : Int32)) (lv' := [(8, .int (v8 + (1 : Int32))), (9, .int (gI m 47 v8.toNatClampNeg)), (0, .ref (oa (gw Γ) 48)), (1, .ref (oa (gw Γ) v1)), (2, .ref (oa (gw Γ) 38)), (3, .int v3), (4, .int v4), (5, .int v5), (6, .int v6), (7, .int v7)]) C dX1_fundPanel_130 rfl rfl (by decide) rfl ?_
        refine g_goto (tgt := 15) C dX1_fundPanel_133 (by decide) ?_
        refine g_sub [2, 3, 4, 5, 6, 7, 8, 9, 0] rfl ?_
        exact hrec v1 v3 v4 v5 v6 v7 (v8 + (1 : Int32)) m b h hE
      · replace h := it_t c_14 h
        refine g_aload_n C dX1_fundPanel_50 3 rfl rfl ?_
        refine g_getT (b := 43) (ci := 5) (j := 4) C dX1_fundPanel_51 rfl (by decide) rfl inT_X5 (by decide) k_17 rfl rfl rfl rfl ?_
        refine g_iload C dX1_fundPanel_54 0 rfl ?_
        obtain ⟨g_6, h⟩ := gd_some h
        refine g_iald C dX1_fundPanel_56 (okA_of rfl rfl g_6) ?_
        refine g_iload C dX1_fundPanel_57 5 rfl ?_
        refine g_icmp_lt (tgt := 130) C dX1_fundPanel_59 (by decide) (fun c_13 => ?_) (fun c_13 => ?_)
        · replace h := it_t c_13 h
          refine g_iinc (q := 9) (v := v8 + (1 : Int32)) (lv' := [(8, .int (v8 + (1 : Int32))), (9, .int (gI m 47 v8.toNatClampNeg)), (0, .ref (oa (gw Γ) 48)), (1, .ref (oa (gw Γ) v1)), (2, .ref (oa (gw Γ) 38)), (3, .int v3), (4, .int v4), (5, .int v5), (6, .int v6), (7, .int v7)]) C dX1_fundPanel_130 rfl rfl (by decide) rfl ?_
          refine g_goto (tgt := 15) C dX1_fundPanel_133 (by decide) ?_
          refine g_sub [2, 3, 4, 5, 6, 7, 8, 9, 0] rfl ?_
          exact hrec v1 v3 v4 v5 v6 v7 (v8 + (1 : Int32)) m b h hE
        · replace h := it_f c_13 h
          refine g_aload_n C dX1_fundPanel_62 1 rfl rfl ?_
          refine g_getT (b := 49) (ci := 1) (j := 0) C dX1_fundPanel_63 rfl (by decide) rfl inT_X1 (by decide) k_18 rfl rfl rfl rfl ?_
          refine g_iload C dX1_fundPanel_66 0 rfl ?_
          refine g_iload_n C dX1_fundPanel_68 4 rfl rfl ?_
          refine g_iload C dX1_fundPanel_69 7 rfl ?_
          refine g_aload_n C dX1_fundPanel_71 2 rfl rfl ?_
          refine g_getT (b := rt v1 12) (ci := 6) (j := 12) C dX1_fundPanel_72 rfl (by decide) rfl inT_X6 (by decide) k_19 rfl rfl rfl g_4 ?_
          refine g_iload C dX1_fundPanel_75 0 rfl ?_
          obtain ⟨g_7, h⟩ := gd_some h
          refine g_iald C dX1_fundPanel_77 g_7 ?_
          refine g_aload_n C dX1_fundPanel_78 2 rfl rfl ?_
          refine g_getT (b := rt v1 13) (ci := 6) (j := 13) C dX1_fundPanel_79 rfl (by decide) rfl inT_X6 (by decide) k_23 rfl rfl rfl g_4 ?_
          refine g_iload C dX1_fundPanel_82 0 rfl ?_
          obtain ⟨g_8, h⟩ := gd_some h
          refine g_iald C dX1_fundPanel_84 g_8 ?_
          obtain ⟨r_9, m_9, hk_9, h⟩ := b2_some h
          refine g_sI (As := [.int v3, .int v6, .int (gI m (rt v1 12) (gI m 47 v8.toNatClampNeg).toNatClampNeg), .int (gI m (rt v1 13) (gI m 47 v8.toNatClampNeg).toNatClampNeg)]) C dX1_fundPanel_85 mf_X1_panelShare k_24 ⟨by decide, by decide⟩ rfl rfl (Nat.le_of_ble_eq_true rfl) (by decide) (c_X1_panelShare N (gl Γ) C.2.2.2.2 (gw Γ) v3 v6 (gI m (rt v1 12) (gI m 47 v8.toNatClampNeg).toNatClampNeg) (gI m (rt v1 13) (gI m 47 v8.toNatClampNeg).toNatClampNeg) m _ hk_9) ?_
          obtain ⟨m_10, e_10, h⟩ := wr_some h
          refine g_iast C dX1_fundPanel_88 (okA_of rfl rfl g_6) (G_m e_10 ?_)
          refine g_iload C dX1_fundPanel_89 7 rfl ?_
          refine g_aload_n C dX1_fundPanel_91 1 rfl rfl ?_
          refine g_getT (b := 49) (ci := 1) (j := 0) C dX1_fundPanel_92 rfl (by decide) rfl inT_X1 (by decide) k_18 rfl rfl rfl rfl ?_
          refine g_iload C dX1_fundPanel_95 0 rfl ?_
          refine g_iald C dX1_fundPanel_97 (okA_of rfl rfl g_6) ?_
          refine g_isub C dX1_fundPanel_98 ?_
          refine g_istore (lv' := [(6, .int (v6 - (gI m_10 49 (gI m 47 v8.toNatClampNeg).toNatClampNeg))), (9, .int (gI m 47 v8.toNatClampNeg)), (0, .ref (oa (gw Γ) 48)), (1, .ref (oa (gw Γ) v1)), (2, .ref (oa (gw Γ) 38)), (3, .int v3), (4, .int v4), (5, .int v5), (7, .int v7), (8, .int v8)]) C dX1_fundPanel_99 (by decide) rfl ?_
          refine g_iload_n C dX1_fundPanel_101 5 rfl rfl ?_
          refine g_iconst (v := (1 : Int32)) C dX1_fundPanel_102 (by decide) ?_
          refine g_icmp_eq (tgt := 123) C dX1_fundPanel_103 (by decide) (fun c_12 => ?_) (fun c_12 => ?_)
          · replace h := it_t c_12 h
            refine g_sub [2, 3, 4, 5, 6, 7, 0, 9] rfl ?_
            exact t_X1_fundPanel_123 N Γ C rc b hE hrec v1 v3 v4 v5 (v6 - (gI m_10 49 (gI m 47 v8.toNatClampNeg).toNatClampNeg)) v8 m_10 h
          · replace h := it_f c_12 h
            refine g_aload_n C dX1_fundPanel_106 2 rfl rfl ?_
            refine g_getT (b := 49) (ci := 1) (j := 0) C dX1_fundPanel_107 rfl (by decide) rfl inT_X1 (by decide) k_18 rfl rfl rfl rfl ?_
            refine g_iload C dX1_fundPanel_110 1 rfl ?_
            refine g_iald C dX1_fundPanel_112 (okA_of rfl rfl g_6) ?_
            refine g_aload_n C dX1_fundPanel_113 3 rfl rfl ?_
            refine g_getT (b := rt v1 12) (ci := 6) (j := 12) C dX1_fundPanel_114 rfl (by decide) rfl inT_X6 (by decide) k_19 rfl rfl rfl g_4 ?_
            refine g_iload C dX1_fundPanel_117 1 rfl ?_
            refine g_iald C dX1_fundPanel_119 g_7 ?_
            refine g_icmp_ne (tgt := 127) C dX1_fundPanel_120 (by decide) (fun c_11 => ?_) (fun c_11 => ?_)
            · replace h := it_f c_11 h
              refine g_iconst (v := (0 : Int32)) C dX1_fundPanel_127 (by decide) ?_
              refine g_sub [2, 3, 4, 5, 6, 7, 0, 9] rfl ?_
              exact t_X1_fundPanel_128 N Γ C rc b hE hrec v1 v3 v4 v5 (v6 - (gI m_10 49 (gI m 47 v8.toNatClampNeg).toNatClampNeg)) v8 (0 : Int32) m_10 h
            · replace h := it_t c_11 h
              refine g_sub [2, 3, 4, 5, 6, 7, 0, 9] rfl ?_
              exact t_X1_fundPanel_123 N Γ C rc b hE hrec v1 v3 v4 v5 (v6 - (gI m_10 49 (gI m 47 v8.toNatClampNeg).toNatClampNeg)) v8 m_10 h
theorem lt_X1_fundPanel_15 (N : Nat) (Γ : Gc) (C : Cx Γ cX1_fundPanel 10 RX1 (rmK 1 23 0)) : ∀ (n : Nat) (v1 : Nat) (v3 : Int32) (v4 : Int32) (v5 : Int32) (v6 : Int32) (v7 : Int32) (v8 : Int32) (m : Mem) (b : Int32 × Int32 × Mem), L_X1_fundPanel_15 N n v1 v3 v4 v5 v6 v7 v8 m = some b → Ex_X1_fundPanel_15 Γ 0 b → G Γ 10 0 m 15 [(0, .ref (oa (gw Γ) 48)), (1, .ref (oa (gw Γ) v1)), (2, .ref (oa (gw Γ) 38)), (3, .int v3), (4, .int v4), (5, .int v5), (6, .int v6), (7, .int v7), (8, .int v8)] [] := by
  intro n
  induction n with
  | zero =>
    intro v1 v3 v4 v5 v6 v7 v8 m b h
    have h9 : (none : Option (Int32 × Int32 × Mem)) = some b := h
    cases h9
  | succ n ih => intro v1 v3 v4 v5 v6 v7 v8 m b h hE; exact t_X1_fundPanel_15 N Γ C (L_X1_fundPanel_15 N n) b hE ih v1 v3 v4 v5 v6 v7 v8 m h
set_option maxRecDepth 100000 in
set_option maxHeartbeats 4000000 in
theorem t_X1_fundPanel_136 (N : Nat) (Γ : Gc) (C : Cx Γ cX1_fundPanel 10 RX1 (rmK 1 23 0)) (b : Mem) (hE : EVn Γ 10 cX1_fundPanel b) (v5 : Int32) (v6 : Int32) (m : Mem) (h : B_X1_fundPanel_136 N v5 v6 m = some b) : G Γ 10 0 m 136 [(0, .ref (oa (gw Γ) 48)), (5, .int v5), (6, .int v6)] [] := by
  unfold B_X1_fundPanel_136 at h
  refine g_aload_n C dX1_fundPanel_136 0 rfl rfl ?_
  refine g_getT (b := 50) (ci := 1) (j := 1) C dX1_fundPanel_137 rfl (by decide) rfl inT_X1 (by decide) k_28 rfl rfl rfl rfl ?_
  refine g_iload C dX1_fundPanel_140 1 rfl ?_
  refine g_iload C dX1_fundPanel_142 2 rfl ?_
  obtain ⟨g_18, h⟩ := gd_some h
  obtain ⟨m_19, e_19, h⟩ := wr_some h
  refine g_iast C dX1_fundPanel_144 (okA_of rfl rfl g_18) (G_m e_19 ?_)
  obtain rfl := Option.some.inj h
  exact hE 145 _ dX1_fundPanel_145
set_option maxRecDepth 100000 in
set_option maxHeartbeats 4000000 in
theorem t_X1_fundPanel (N : Nat) (Γ : Gc) (C : Cx Γ cX1_fundPanel 10 RX1 (rmK 1 23 0)) (v1 : Nat) (v3 : Int32) (v4 : Int32) (v5 : Int32) (m : Mem) (b : Mem) (h : f_X1_fundPanel N v1 v3 v4 v5 m = some b) (hE : EVn Γ 10 cX1_fundPanel b) : G Γ 10 0 m 0 [(0, .ref (oa (gw Γ) 48)), (1, .ref (oa (gw Γ) v1)), (2, .ref (oa (gw Γ) 38)), (3, .int v3), (4, .int v4), (5, .int v5)] [] := by
  unfold f_X1_fundPanel at h
  refine g_aload_n C dX1_fundPanel_0 1 rfl rfl ?_
  obtain ⟨g_1, h⟩ := gd_some h
  refine g_getT (b := rt v1 3) (ci := 6) (j := 3) C dX1_fundPanel_1 rfl (by decide) rfl inT_X6 (by decide) k_21 rfl rfl rfl g_1 ?_
  refine g_iload C dX1_fundPanel_4 5 rfl ?_
  obtain ⟨g_2, h⟩ := gd_some h
  refine g_iald C dX1_fundPanel_6 g_2 ?_
  refine g_istore (lv' := [(6, .int (gI m (rt v1 3) v5.toNatClampNeg)), (0, .ref (oa (gw Γ) 48)), (1, .ref (oa (gw Γ) v1)), (2, .ref (oa (gw Γ) 38)), (3, .int v3), (4, .int v4), (5, .int v5)]) C dX1_fundPanel_7 (by decide) rfl ?_
  refine g_iconst (v := (1 : Int32)) C dX1_fundPanel_9 (by decide) ?_
  refine g_istore (lv' := [(7, .int (1 : Int32)), (6, .int (gI m (rt v1 3) v5.toNatClampNeg)), (0, .ref (oa (gw Γ) 48)), (1, .ref (oa (gw Γ) v1)), (2, .ref (oa (gw Γ) 38)), (3, .int v3), (4, .int v4), (5, .int v5)]) C dX1_fundPanel_10 (by decide) rfl ?_
  refine g_iconst (v := (0 : Int32)) C dX1_fundPanel_12 (by decide) ?_
  refine g_istore (lv' := [(8, .int (0 : Int32)), (7, .int (1 : Int32)), (6, .int (gI m (rt v1 3) v5.toNatClampNeg)), (0, .ref (oa (gw Γ) 48)), (1, .ref (oa (gw Γ) v1)), (2, .ref (oa (gw Γ) 38)), (3, .int v3), (4, .int v4), (5, .int v5)]) C dX1_fundPanel_13 (by decide) rfl ?_
  obtain ⟨v5_17, v6_17, m_17, hx, h⟩ := l3_some h
  refine g_sub [3, 4, 5, 6, 7, 8, 2, 1, 0] rfl ?_
  refine lt_X1_fundPanel_15 N Γ C N v1 v3 v4 v5 (gI m (rt v1 3) v5.toNatClampNeg) (1 : Int32) (0 : Int32) m _ hx ?_
  intro z5 z6 m9 e9
  cases e9
  refine g_sub [0, 1, 2] rfl ?_
  exact t_X1_fundPanel_136 N Γ C b hE v5_17 v6_17 m_17 h
theorem c_X1_fundPanel (N : Nat) (l : Launch) (hst : l.stackTraces = false) (w : Om) (v1 : Nat) (v3 : Int32) (v4 : Int32) (v5 : Int32) (m : Mem) (o : Mem) (h : f_X1_fundPanel N v1 v3 v4 v5 m = some o) : KV l yX1_fundPanel cX1_fundPanel 10 none 1 23 w [.ref (oa w 48), .ref (oa w v1), .ref (oa w 38), .int v3, .int v4, .int v5] m o := KV_of hst (by decide +kernel) RX1 rfl (Nat.le_of_ble_eq_true rfl) (fun Γ hw hl C hE => by
  subst hw; subst hl
  exact t_X1_fundPanel N Γ C v1 v3 v4 v5 m o h hE)
def Ex_X1_distribute_19 (Γ : Gc) (cs : Nat) (b : Nat × Int32 × Mem) : Prop := (∀ (y1 : Nat) (y4 : Int32) (m' : Mem), b = (y1, y4, m') → G Γ 6 cs m' 61 [(0, .ref (oa (gw Γ) 48)), (1, .ref (oa (gw Γ) y1)), (2, .ref (oa (gw Γ) 38)), (4, .int y4)] [])
set_option maxRecDepth 100000 in
set_option maxHeartbeats 4000000 in
theorem t_X1_distribute_19 (N : Nat) (Γ : Gc) (C : Cx Γ cX1_distribute 6 RX1 (rmK 2 52 0)) (rc : Nat → Int32 → Int32 → Int32 → Mem → Option (Nat × Int32 × Mem)) (b : Nat × Int32 × Mem) (hE : Ex_X1_distribute_19 Γ 0 b) (hrec : ∀ (v1 : Nat) (v3 : Int32) (v4 : Int32) (v5 : Int32) (m : Mem) (b : Nat × Int32 × Mem), rc v1 v3 v4 v5 m = some b → Ex_X1_distribute_19 Γ 0 b → G Γ 6 0 m 19 [(0, .ref (oa (gw Γ) 48)), (1, .ref (oa (gw Γ) v1)), (2, .ref (oa (gw Γ) 38)), (3, .int v3), (4, .int v4), (5, .int v5)] []) (v1 : Nat) (v3 : Int32) (v4 : Int32) (v5 : Int32) (m : Mem) (h : T_X1_distribute_19 N rc v1 v3 v4 v5 m = some b) : G Γ 6 0 m 19 [(0, .ref (oa (gw Γ) 48)), (1, .ref (oa (gw Γ) v1)), (2, .ref (oa (gw Γ) 38)), (3, .int v3), (4, .int v4), (5, .int v5)] [] := by
  unfold T_X1_distribute_19 at h
  refine g_iload C dX1_distribute_19 5 rfl ?_
  refine g_aload_n C dX1_distribute_21 1 rfl rfl ?_
  obtain ⟨g_4, h⟩ := gd_some h
  refine g_getI (ci := 6) (j := 0) C dX1_distribute_22 rfl (by decide) rfl inT_X6 (by decide) k_34 rfl g_4 ?_
  refine g_icmp_ge (tgt := 61) C dX1_distribute_25 (by decide) (fun c_8 => ?_) (fun c_8 => ?_)
  · replace h := it_t c_8 h
    obtain rfl := Option.some.inj h
    refine g_sub [0, 1, 2, 4] rfl ?_
    exact hE _ _ _ rfl
  · replace h := it_f c_8 h
    refine g_aload_n C dX1_distribute_28 0 rfl rfl ?_
    refine g_aload_n C dX1_distribute_29 1 rfl rfl ?_
    refine g_aload_n C dX1_distribute_30 2 rfl rfl ?_
    refine g_iload_n C dX1_distribute_31 3 rfl rfl ?_
    refine g_iload C dX1_distribute_32 4 rfl ?_
    refine g_iload C dX1_distribute_34 5 rfl ?_
    obtain ⟨m_5, hk_5, h⟩ := b1_some h
    refine g_vV (As := [.ref (oa (gw Γ) v1), .ref (oa (gw Γ) 38), .int v3, .int v4, .int v5]) (a := 48) (ci := 1) C dX1_distribute_36 mf_X1_fundPanel k_35 rfl (by decide) ⟨by decide, by decide⟩ rfl rfl (Nat.le_of_ble_eq_true rfl) (by decide) rfl (c_X1_fundPanel N (gl Γ) C.2.2.2.2 (gw Γ) v1 v3 v4 v5 m _ hk_5) ?_
    refine g_aload_n C dX1_distribute_39 0 rfl rfl ?_
    refine g_dup C dX1_distribute_40 rfl ?_
    refine g_getI (ci := 1) (j := 2) C dX1_distribute_41 rfl (by decide) rfl inT_X1 (by decide) k_20 rfl rfl ?_
    refine g_aload_n C dX1_distribute_44 0 rfl rfl ?_
    refine g_getT (b := 50) (ci := 1) (j := 1) C dX1_distribute_45 rfl (by decide) rfl inT_X1 (by decide) k_28 rfl rfl rfl rfl ?_
    refine g_iload C dX1_distribute_48 5 rfl ?_
    obtain ⟨g_6, h⟩ := gd_some h
    refine g_iald C dX1_distribute_50 (okA_of rfl rfl g_6) ?_
    refine g_iadd C dX1_distribute_51 ?_
    obtain ⟨m_7, e_7, h⟩ := wr_some h
    refine g_putI (ci := 1) (j := 2) C dX1_distribute_52 rfl (by decide) rfl inT_X1 (by decide) k_20 tyX1 tyX1_ok nmX1 rfl rfl rfl rfl rfl (G_m e_7 ?_)
    refine g_iinc (q := 5) (v := v5 + (1 : Int32)) (lv' := [(5, .int (v5 + (1 : Int32))), (0, .ref (oa (gw Γ) 48)), (1, .ref (oa (gw Γ) v1)), (2, .ref (oa (gw Γ) 38)), (3, .int v3), (4, .int v4)]) C dX1_distribute_55 rfl rfl (by decide) rfl ?_
    refine g_goto (tgt := 19) C dX1_distribute_58 (by decide) ?_
    refine g_sub [1, 2, 3, 4, 5, 0] rfl ?_
    exact hrec v1 v3 v4 (v5 + (1 : Int32)) m_7 b h hE
theorem lt_X1_distribute_19 (N : Nat) (Γ : Gc) (C : Cx Γ cX1_distribute 6 RX1 (rmK 2 52 0)) : ∀ (n : Nat) (v1 : Nat) (v3 : Int32) (v4 : Int32) (v5 : Int32) (m : Mem) (b : Nat × Int32 × Mem), L_X1_distribute_19 N n v1 v3 v4 v5 m = some b → Ex_X1_distribute_19 Γ 0 b → G Γ 6 0 m 19 [(0, .ref (oa (gw Γ) 48)), (1, .ref (oa (gw Γ) v1)), (2, .ref (oa (gw Γ) 38)), (3, .int v3), (4, .int v4), (5, .int v5)] [] := by
  intro n
  induction n with
  | zero =>
    intro v1 v3 v4 v5 m b h
    have h9 : (none : Option (Nat × Int32 × Mem)) = some b := h
    cases h9
  | succ n ih => intro v1 v3 v4 v5 m b h hE; exact t_X1_distribute_19 N Γ C (L_X1_distribute_19 N n) b hE ih v1 v3 v4 v5 m h
set_option maxRecDepth 100000 in
set_option maxHeartbeats 4000000 in
theorem t_X1_distribute (N : Nat) (Γ : Gc) (C : Cx Γ cX1_distribute 6 RX1 (rmK 2 52 0)) (v1 : Nat) (v3 : Int32) (v4 : Int32) (m : Mem) (b : Mem) (h : f_X1_distribute N v1 v3 v4 m = some b) (hE : EVn Γ 6 cX1_distribute b) : G Γ 6 0 m 0 [(0, .ref (oa (gw Γ) 48)), (1, .ref (oa (gw Γ) v1)), (2, .ref (oa (gw Γ) 38)), (3, .int v3), (4, .int v4)] [] := by
  unfold f_X1_distribute at h
  refine g_aload_n C dX1_distribute_0 0 rfl rfl ?_
  refine g_getT (b := 49) (ci := 1) (j := 0) C dX1_distribute_1 rfl (by decide) rfl inT_X1 (by decide) k_18 rfl rfl rfl rfl ?_
  refine g_iconst (v := (0 : Int32)) C dX1_distribute_4 (by decide) ?_
  obtain ⟨m_1, hk_1, h⟩ := b1_some h
  refine g_sV (As := [.ref (oa (gw Γ) 49), .int (0 : Int32)]) C dX1_distribute_5 mf_J7_fill_53178 k_29 ⟨by decide, by decide⟩ rfl rfl (Nat.le_of_ble_eq_true rfl) (by decide) (c_J7_fill_53178 N (gl Γ) C.2.2.2.2 (gw Γ) 49 (0 : Int32) m _ hk_1) ?_
  refine g_aload_n C dX1_distribute_8 0 rfl rfl ?_
  refine g_aload_n C dX1_distribute_9 1 rfl rfl ?_
  obtain ⟨g_2, h⟩ := gd_some h
  refine g_getI (ci := 6) (j := 17) C dX1_distribute_10 rfl (by decide) rfl inT_X6 (by decide) k_33 rfl g_2 ?_
  obtain ⟨m_3, e_3, h⟩ := wr_some h
  refine g_putI (ci := 1) (j := 2) C dX1_distribute_13 rfl (by decide) rfl inT_X1 (by decide) k_20 tyX1 tyX1_ok nmX1 rfl rfl rfl rfl rfl (G_m e_3 ?_)
  refine g_iconst (v := (0 : Int32)) C dX1_distribute_16 (by decide) ?_
  refine g_istore (lv' := [(5, .int (0 : Int32)), (0, .ref (oa (gw Γ) 48)), (1, .ref (oa (gw Γ) v1)), (2, .ref (oa (gw Γ) 38)), (3, .int v3), (4, .int v4)]) C dX1_distribute_17 (by decide) rfl ?_
  obtain ⟨v1_9, v4_9, m_9, hx, h⟩ := l3_some h
  refine g_sub [1, 2, 3, 4, 5, 0] rfl ?_
  refine lt_X1_distribute_19 N Γ C N v1 v3 v4 (0 : Int32) m_3 _ hx ?_
  intro z1 z4 m9 e9
  cases e9
  refine g_aload_n C dX1_distribute_61 0 rfl rfl ?_
  refine g_aload_n C dX1_distribute_62 1 rfl rfl ?_
  refine g_aload_n C dX1_distribute_63 2 rfl rfl ?_
  refine g_iload C dX1_distribute_64 3 rfl ?_
  obtain ⟨m_10, hk_10, h⟩ := b1_some h
  refine g_vV (As := [.ref (oa (gw Γ) v1_9), .ref (oa (gw Γ) 38), .int v4_9]) (a := 48) (ci := 1) C dX1_distribute_66 mf_X1_fundFromPool k_39 rfl (by decide) ⟨by decide, by decide⟩ rfl rfl (Nat.le_of_ble_eq_true rfl) (by decide) rfl (c_X1_fundFromPool N (gl Γ) C.2.2.2.2 (gw Γ) v1_9 v4_9 m_9 _ hk_10) ?_
  obtain rfl := Option.some.inj h
  exact hE 69 _ dX1_distribute_69
theorem c_X1_distribute (N : Nat) (l : Launch) (hst : l.stackTraces = false) (w : Om) (v1 : Nat) (v3 : Int32) (v4 : Int32) (m : Mem) (o : Mem) (h : f_X1_distribute N v1 v3 v4 m = some o) : KV l yX1_distribute cX1_distribute 6 none 2 52 w [.ref (oa w 48), .ref (oa w v1), .ref (oa w 38), .int v3, .int v4] m o := KV_of hst (by decide +kernel) RX1 rfl (Nat.le_of_ble_eq_true rfl) (fun Γ hw hl C hE => by
  subst hw; subst hl
  exact t_X1_distribute N Γ C v1 v3 v4 m o h hE)
def Ex_X1_winners_4 (Γ : Gc) (cs : Nat) (b : Int32 × Mem) : Prop := (∀ (y2 : Int32) (m' : Mem), b = (y2, m') → G Γ 4 cs m' 30 [(2, .int y2)] [])
set_option maxRecDepth 100000 in
set_option maxHeartbeats 4000000 in
theorem t_X1_winners_4 (N : Nat) (Γ : Gc) (C : Cx Γ cX1_winners 4 RX1 (rmK 0 0 0)) (rc : Int32 → Int32 → Int32 → Mem → Option (Int32 × Mem)) (b : Int32 × Mem) (hE : Ex_X1_winners_4 Γ 0 b) (hrec : ∀ (v1 : Int32) (v2 : Int32) (v3 : Int32) (m : Mem) (b : Int32 × Mem), rc v1 v2 v3 m = some b → Ex_X1_winners_4 Γ 0 b → G Γ 4 0 m 4 [(0, .ref (oa (gw Γ) 48)), (1, .int v1), (2, .int v2), (3, .int v3)] []) (v1 : Int32) (v2 : Int32) (v3 : Int32) (m : Mem) (h : T_X1_winners_4 N rc v1 v2 v3 m = some b) : G Γ 4 0 m 4 [(0, .ref (oa (gw Γ) 48)), (1, .int v1), (2, .int v2), (3, .int v3)] [] := by
  unfold T_X1_winners_4 at h
  refine g_iload_n C dX1_winners_4 3 rfl rfl ?_
  refine g_iload_n C dX1_winners_5 1 rfl rfl ?_
  refine g_icmp_ge (tgt := 30) C dX1_winners_6 (by decide) (fun c_3 => ?_) (fun c_3 => ?_)
  · replace h := it_t c_3 h
    obtain rfl := Option.some.inj h
    refine g_sub [2] rfl ?_
    exact hE _ _ rfl
  · replace h := it_f c_3 h
    refine g_aload_n C dX1_winners_9 0 rfl rfl ?_
    refine g_getT (b := 49) (ci := 1) (j := 0) C dX1_winners_10 rfl (by decide) rfl inT_X1 (by decide) k_18 rfl rfl rfl rfl ?_
    refine g_iload_n C dX1_winners_13 3 rfl rfl ?_
    obtain ⟨g_1, h⟩ := gd_some h
    refine g_iald C dX1_winners_14 (okA_of rfl rfl g_1) ?_
    refine g_if_le (tgt := 24) C dX1_winners_15 (by decide) (fun c_2 => ?_) (fun c_2 => ?_)
    · replace h := it_t c_2 h
      refine g_iinc (q := 3) (v := v3 + (1 : Int32)) (lv' := [(3, .int (v3 + (1 : Int32))), (0, .ref (oa (gw Γ) 48)), (1, .int v1), (2, .int v2)]) C dX1_winners_24 rfl rfl (by decide) rfl ?_
      refine g_goto (tgt := 4) C dX1_winners_27 (by decide) ?_
      refine g_sub [1, 2, 3, 0] rfl ?_
      exact hrec v1 v2 (v3 + (1 : Int32)) m b h hE
    · replace h := it_f c_2 h
      refine g_iload_n C dX1_winners_18 2 rfl rfl ?_
      refine g_iconst (v := (1 : Int32)) C dX1_winners_19 (by decide) ?_
      refine g_iload_n C dX1_winners_20 3 rfl rfl ?_
      refine g_ishl C dX1_winners_21 ?_
      refine g_ior C dX1_winners_22 ?_
      refine g_istore_n (lv' := [(2, .int (v2 ||| ((1 : Int32) <<< (v3 &&& 31)))), (0, .ref (oa (gw Γ) 48)), (1, .int v1), (3, .int v3)]) C dX1_winners_23 rfl (by decide) rfl ?_
      refine g_iinc (q := 3) (v := v3 + (1 : Int32)) (lv' := [(3, .int (v3 + (1 : Int32))), (2, .int (v2 ||| ((1 : Int32) <<< (v3 &&& 31)))), (0, .ref (oa (gw Γ) 48)), (1, .int v1)]) C dX1_winners_24 rfl rfl (by decide) rfl ?_
      refine g_goto (tgt := 4) C dX1_winners_27 (by decide) ?_
      refine g_sub [2, 3, 1, 0] rfl ?_
      exact hrec v1 (v2 ||| ((1 : Int32) <<< (v3 &&& 31))) (v3 + (1 : Int32)) m b h hE
theorem lt_X1_winners_4 (N : Nat) (Γ : Gc) (C : Cx Γ cX1_winners 4 RX1 (rmK 0 0 0)) : ∀ (n : Nat) (v1 : Int32) (v2 : Int32) (v3 : Int32) (m : Mem) (b : Int32 × Mem), L_X1_winners_4 N n v1 v2 v3 m = some b → Ex_X1_winners_4 Γ 0 b → G Γ 4 0 m 4 [(0, .ref (oa (gw Γ) 48)), (1, .int v1), (2, .int v2), (3, .int v3)] [] := by
  intro n
  induction n with
  | zero =>
    intro v1 v2 v3 m b h
    have h9 : (none : Option (Int32 × Mem)) = some b := h
    cases h9
  | succ n ih => intro v1 v2 v3 m b h hE; exact t_X1_winners_4 N Γ C (L_X1_winners_4 N n) b hE ih v1 v2 v3 m h
set_option maxRecDepth 100000 in
set_option maxHeartbeats 4000000 in
theorem t_X1_winners (N : Nat) (Γ : Gc) (C : Cx Γ cX1_winners 4 RX1 (rmK 0 0 0)) (v1 : Int32) (m : Mem) (b : Int32 × Mem) (h : f_X1_winners N v1 m = some b) (hE : EIn Γ 4 cX1_winners b) : G Γ 4 0 m 0 [(0, .ref (oa (gw Γ) 48)), (1, .int v1)] [] := by
  unfold f_X1_winners at h
  refine g_iconst (v := (0 : Int32)) C dX1_winners_0 (by decide) ?_
  refine g_istore_n (lv' := [(2, .int (0 : Int32)), (0, .ref (oa (gw Γ) 48)), (1, .int v1)]) C dX1_winners_1 rfl (by decide) rfl ?_
  refine g_iconst (v := (0 : Int32)) C dX1_winners_2 (by decide) ?_
  refine g_istore_n (lv' := [(3, .int (0 : Int32)), (2, .int (0 : Int32)), (0, .ref (oa (gw Γ) 48)), (1, .int v1)]) C dX1_winners_3 rfl (by decide) rfl ?_
  obtain ⟨v2_4, m_4, hx, h⟩ := l2_some h
  refine g_sub [2, 3, 1, 0] rfl ?_
  refine lt_X1_winners_4 N Γ C N v1 (0 : Int32) (0 : Int32) m _ hx ?_
  intro z2 m9 e9
  cases e9
  refine g_iload_n C dX1_winners_30 0 rfl rfl ?_
  obtain rfl := Option.some.inj h
  exact hE 31 _ dX1_winners_31
theorem c_X1_winners (N : Nat) (l : Launch) (hst : l.stackTraces = false) (w : Om) (v1 : Int32) (m : Mem) (o : Int32 × Mem) (h : f_X1_winners N v1 m = some o) : KI l yX1_winners cX1_winners 4 (some .int) 0 0 w [.ref (oa w 48), .int v1] m o.1 o.2 := KI_of hst (by decide +kernel) RX1 rfl (Nat.le_of_ble_eq_true rfl) (fun Γ hw hl C hE => by
  subst hw; subst hl
  exact t_X1_winners N Γ C v1 m o h hE)
set_option maxRecDepth 100000 in
set_option maxHeartbeats 4000000 in
theorem t_X2_clear (N : Nat) (Γ : Gc) (C : Cx Γ cX2_clear 1 RX2 (rmK 0 0 0))  (m : Mem) (b : Mem) (h : f_X2_clear N  m = some b) (hE : EVn Γ 1 cX2_clear b) : G Γ 1 0 m 0 [(0, .ref (oa (gw Γ) 6))] [] := by
  unfold f_X2_clear at h
  refine g_aload_n C dX2_clear_0 0 rfl rfl ?_
  refine g_iconst (v := (0 : Int32)) C dX2_clear_1 (by decide) ?_
  obtain ⟨m_1, e_1, h⟩ := wr_some h
  refine g_putI (ci := 2) (j := 2) C dX2_clear_2 rfl (by decide) rfl inT_X2 (by decide) k_43 tyX2 tyX2_ok nmX2 rfl rfl rfl rfl rfl (G_m e_1 ?_)
  obtain rfl := Option.some.inj h
  exact hE 5 _ dX2_clear_5
theorem c_X2_clear (N : Nat) (l : Launch) (hst : l.stackTraces = false) (w : Om)  (m : Mem) (o : Mem) (h : f_X2_clear N  m = some o) : KV l yX2_clear cX2_clear 1 none 0 0 w [.ref (oa w 6)] m o := KV_of hst (by decide +kernel) RX2 rfl (Nat.le_of_ble_eq_true rfl) (fun Γ hw hl C hE => by
  subst hw; subst hl
  exact t_X2_clear N Γ C  m o h hE)
set_option maxRecDepth 100000 in
set_option maxHeartbeats 4000000 in
theorem t_X7_copyFrom (N : Nat) (Γ : Gc) (C : Cx Γ cX7_copyFrom 2 RX7 (rmK 1 60 0)) (v0 : Nat) (v1 : Nat) (m : Mem) (b : Mem) (h : f_X7_copyFrom N v0 v1 m = some b) (hE : EVn Γ 2 cX7_copyFrom b) : G Γ 2 0 m 0 [(0, .ref (oa (gw Γ) v0)), (1, .ref (oa (gw Γ) v1))] [] := by
  unfold f_X7_copyFrom at h
  refine g_aload_n C dX7_copyFrom_0 1 rfl rfl ?_
  obtain ⟨g_1, h⟩ := gd_some h
  refine g_getT (b := rt v1 0) (ci := 7) (j := 0) C dX7_copyFrom_1 rfl (by decide) rfl inT_X7 (by decide) k_44 rfl rfl rfl g_1 ?_
  refine g_iconst (v := (0 : Int32)) C dX7_copyFrom_4 (by decide) ?_
  refine g_aload_n C dX7_copyFrom_5 0 rfl rfl ?_
  obtain ⟨g_2, h⟩ := gd_some h
  refine g_getT (b := rt v0 0) (ci := 7) (j := 0) C dX7_copyFrom_6 rfl (by decide) rfl inT_X7 (by decide) k_44 rfl rfl rfl g_2 ?_
  refine g_iconst (v := (0 : Int32)) C dX7_copyFrom_9 (by decide) ?_
  refine g_sipush (v := (192 : Int32)) C dX7_copyFrom_10 (by decide) ?_
  obtain ⟨g_3, h⟩ := gd_some h
  obtain ⟨m_4, e_4, h⟩ := wr_some h
  refine g_acopy C dX7_copyFrom_13 k_45 k_46 k_47 k_48 (by decide) (Nat.le_of_ble_eq_true rfl) g_3 (G_m e_4 ?_)
  refine g_aload_n C dX7_copyFrom_16 1 rfl rfl ?_
  refine g_getT (b := rt v1 1) (ci := 7) (j := 1) C dX7_copyFrom_17 rfl (by decide) rfl inT_X7 (by decide) k_49 rfl rfl rfl g_1 ?_
  refine g_iconst (v := (0 : Int32)) C dX7_copyFrom_20 (by decide) ?_
  refine g_aload_n C dX7_copyFrom_21 0 rfl rfl ?_
  refine g_getT (b := rt v0 1) (ci := 7) (j := 1) C dX7_copyFrom_22 rfl (by decide) rfl inT_X7 (by decide) k_49 rfl rfl rfl g_2 ?_
  refine g_iconst (v := (0 : Int32)) C dX7_copyFrom_25 (by decide) ?_
  refine g_bipush (v := (12 : Int32)) C dX7_copyFrom_26 (by decide) ?_
  obtain ⟨g_5, h⟩ := gd_some h
  obtain ⟨m_6, e_6, h⟩ := wr_some h
  refine g_acopy C dX7_copyFrom_28 k_45 k_46 k_47 k_48 (by decide) (Nat.le_of_ble_eq_true rfl) g_5 (G_m e_6 ?_)
  refine g_aload_n C dX7_copyFrom_31 0 rfl rfl ?_
  refine g_aload_n C dX7_copyFrom_32 1 rfl rfl ?_
  refine g_getI (ci := 7) (j := 2) C dX7_copyFrom_33 rfl (by decide) rfl inT_X7 (by decide) k_50 rfl g_1 ?_
  obtain ⟨m_7, e_7, h⟩ := wr_some h
  refine g_putI (ci := 7) (j := 2) C dX7_copyFrom_36 rfl (by decide) rfl inT_X7 (by decide) k_50 tyX7 tyX7_ok nmX7 rfl rfl g_2 rfl rfl (G_m e_7 ?_)
  refine g_aload_n C dX7_copyFrom_39 0 rfl rfl ?_
  refine g_aload_n C dX7_copyFrom_40 1 rfl rfl ?_
  refine g_getI (ci := 7) (j := 3) C dX7_copyFrom_41 rfl (by decide) rfl inT_X7 (by decide) k_51 rfl g_1 ?_
  obtain ⟨m_8, e_8, h⟩ := wr_some h
  refine g_putI (ci := 7) (j := 3) C dX7_copyFrom_44 rfl (by decide) rfl inT_X7 (by decide) k_51 tyX7 tyX7_ok nmX7 rfl rfl g_2 rfl rfl (G_m e_8 ?_)
  obtain rfl := Option.some.inj h
  exact hE 47 _ dX7_copyFrom_47
theorem c_X7_copyFrom (N : Nat) (l : Launch) (hst : l.stackTraces = false) (w : Om) (v0 : Nat) (v1 : Nat) (m : Mem) (o : Mem) (h : f_X7_copyFrom N v0 v1 m = some o) : KV l yX7_copyFrom cX7_copyFrom 2 none 1 60 w [.ref (oa w v0), .ref (oa w v1)] m o := KV_of hst (by decide +kernel) RX7 rfl (Nat.le_of_ble_eq_true rfl) (fun Γ hw hl C hE => by
  subst hw; subst hl
  exact t_X7_copyFrom N Γ C v0 v1 m o h hE)
set_option maxRecDepth 100000 in
set_option maxHeartbeats 4000000 in
theorem t_X2_remember_35 (N : Nat) (Γ : Gc) (C : Cx Γ cX2_remember 2 RX2 (rmK 2 81 0)) (b : Mem) (hE : EVn Γ 2 cX2_remember b) (s0 : Int32) (m : Mem) (h : B_X2_remember_35 N s0 m = some b) : G Γ 2 0 m 35 [(0, .ref (oa (gw Γ) 6))] [.int s0, .ref (oa (gw Γ) 6)] := by
  unfold B_X2_remember_35 at h
  obtain ⟨m_4, e_4, h⟩ := wr_some h
  refine g_putI (ci := 2) (j := 1) C dX2_remember_35 rfl (by decide) rfl inT_X2 (by decide) k_53 tyX2 tyX2_ok nmX2 rfl rfl rfl rfl rfl (G_m e_4 ?_)
  refine g_aload_n C dX2_remember_38 0 rfl rfl ?_
  refine g_aload_n C dX2_remember_39 0 rfl rfl ?_
  refine g_getI (ci := 2) (j := 2) C dX2_remember_40 rfl (by decide) rfl inT_X2 (by decide) k_43 rfl rfl ?_
  refine g_iconst (v := (1 : Int32)) C dX2_remember_43 (by decide) ?_
  refine g_iadd C dX2_remember_44 ?_
  refine g_bipush (v := (10 : Int32)) C dX2_remember_45 (by decide) ?_
  refine g_min C dX2_remember_47 k_59 k_60 k_61 k_62 (by decide) (Nat.le_of_ble_eq_true rfl) (by decide) ?_
  obtain ⟨m_5, e_5, h⟩ := wr_some h
  refine g_putI (ci := 2) (j := 2) C dX2_remember_50 rfl (by decide) rfl inT_X2 (by decide) k_43 tyX2 tyX2_ok nmX2 rfl rfl rfl rfl rfl (G_m e_5 ?_)
  obtain rfl := Option.some.inj h
  exact hE 53 _ dX2_remember_53
set_option maxRecDepth 100000 in
set_option maxHeartbeats 4000000 in
theorem t_X2_remember (N : Nat) (Γ : Gc) (C : Cx Γ cX2_remember 2 RX2 (rmK 2 81 0))  (m : Mem) (b : Mem) (h : f_X2_remember N  m = some b) (hE : EVn Γ 2 cX2_remember b) : G Γ 2 0 m 0 [(0, .ref (oa (gw Γ) 6)), (1, .ref (oa (gw Γ) 3))] [] := by
  unfold f_X2_remember at h
  refine g_aload_n C dX2_remember_0 0 rfl rfl ?_
  refine g_getT (b := 7) (ci := 2) (j := 0) C dX2_remember_1 rfl (by decide) rfl inT_X2 (by decide) k_52 rfl rfl rfl rfl ?_
  refine g_aload_n C dX2_remember_4 0 rfl rfl ?_
  refine g_getI (ci := 2) (j := 1) C dX2_remember_5 rfl (by decide) rfl inT_X2 (by decide) k_53 rfl rfl ?_
  obtain ⟨g_1, h⟩ := gd_some h
  refine g_aald C dX2_remember_8 (okA_of rfl rfl g_1) ?_
  refine g_aload_n C dX2_remember_9 1 rfl rfl ?_
  obtain ⟨g_2, h⟩ := gd_some h
  obtain ⟨m_3, hk_3, h⟩ := b1_some h
  refine g_vV (As := [.ref (oa (gw Γ) 3)]) (a := (rt 7 (gI m 6 1).toNatClampNeg)) (ci := 7) C dX2_remember_10 mf_X7_copyFrom k_54 rfl (by decide) ⟨by decide, by decide⟩ rfl rfl (Nat.le_of_ble_eq_true rfl) (by decide) g_2 (c_X7_copyFrom N (gl Γ) C.2.2.2.2 (gw Γ) (rt 7 (gI m 6 1).toNatClampNeg) 3 m _ hk_3) ?_
  refine g_aload_n C dX2_remember_13 0 rfl rfl ?_
  refine g_aload_n C dX2_remember_14 0 rfl rfl ?_
  refine g_getI (ci := 2) (j := 1) C dX2_remember_15 rfl (by decide) rfl inT_X2 (by decide) k_53 rfl rfl ?_
  refine g_iconst (v := (1 : Int32)) C dX2_remember_18 (by decide) ?_
  refine g_iadd C dX2_remember_19 ?_
  refine g_bipush (v := (10 : Int32)) C dX2_remember_20 (by decide) ?_
  refine g_icmp_ge (tgt := 34) C dX2_remember_22 (by decide) (fun c_6 => ?_) (fun c_6 => ?_)
  · replace h := it_t c_6 h
    refine g_iconst (v := (0 : Int32)) C dX2_remember_34 (by decide) ?_
    refine g_sub [0] rfl ?_
    exact t_X2_remember_35 N Γ C b hE (0 : Int32) m_3 h
  · replace h := it_f c_6 h
    refine g_aload_n C dX2_remember_25 0 rfl rfl ?_
    refine g_getI (ci := 2) (j := 1) C dX2_remember_26 rfl (by decide) rfl inT_X2 (by decide) k_53 rfl rfl ?_
    refine g_iconst (v := (1 : Int32)) C dX2_remember_29 (by decide) ?_
    refine g_iadd C dX2_remember_30 ?_
    refine g_goto (tgt := 35) C dX2_remember_31 (by decide) ?_
    refine g_sub [0] rfl ?_
    exact t_X2_remember_35 N Γ C b hE ((gI m_3 6 1) + (1 : Int32)) m_3 h
theorem c_X2_remember (N : Nat) (l : Launch) (hst : l.stackTraces = false) (w : Om)  (m : Mem) (o : Mem) (h : f_X2_remember N  m = some o) : KV l yX2_remember cX2_remember 2 none 2 81 w [.ref (oa w 6), .ref (oa w 3)] m o := KV_of hst (by decide +kernel) RX2 rfl (Nat.le_of_ble_eq_true rfl) (fun Γ hw hl C hE => by
  subst hw; subst hl
  exact t_X2_remember N Γ C  m o h hE)
set_option maxRecDepth 100000 in
set_option maxHeartbeats 4000000 in
theorem t_X2_restore_19 (N : Nat) (Γ : Gc) (C : Cx Γ cX2_restore 2 RX2 (rmK 2 81 0)) (b : Mem) (hE : EVn Γ 2 cX2_restore b) (s0 : Int32) (m : Mem) (h : B_X2_restore_19 N s0 m = some b) : G Γ 2 0 m 19 [(0, .ref (oa (gw Γ) 6)), (1, .ref (oa (gw Γ) 3))] [.int s0, .ref (oa (gw Γ) 6)] := by
  unfold B_X2_restore_19 at h
  obtain ⟨m_1, e_1, h⟩ := wr_some h
  refine g_putI (ci := 2) (j := 1) C dX2_restore_19 rfl (by decide) rfl inT_X2 (by decide) k_53 tyX2 tyX2_ok nmX2 rfl rfl rfl rfl rfl (G_m e_1 ?_)
  refine g_aload_n C dX2_restore_22 0 rfl rfl ?_
  refine g_dup C dX2_restore_23 rfl ?_
  refine g_getI (ci := 2) (j := 2) C dX2_restore_24 rfl (by decide) rfl inT_X2 (by decide) k_43 rfl rfl ?_
  refine g_iconst (v := (1 : Int32)) C dX2_restore_27 (by decide) ?_
  refine g_isub C dX2_restore_28 ?_
  obtain ⟨m_2, e_2, h⟩ := wr_some h
  refine g_putI (ci := 2) (j := 2) C dX2_restore_29 rfl (by decide) rfl inT_X2 (by decide) k_43 tyX2 tyX2_ok nmX2 rfl rfl rfl rfl rfl (G_m e_2 ?_)
  refine g_aload_n C dX2_restore_32 1 rfl rfl ?_
  refine g_aload_n C dX2_restore_33 0 rfl rfl ?_
  refine g_getT (b := 7) (ci := 2) (j := 0) C dX2_restore_34 rfl (by decide) rfl inT_X2 (by decide) k_52 rfl rfl rfl rfl ?_
  refine g_aload_n C dX2_restore_37 0 rfl rfl ?_
  refine g_getI (ci := 2) (j := 1) C dX2_restore_38 rfl (by decide) rfl inT_X2 (by decide) k_53 rfl rfl ?_
  obtain ⟨g_3, h⟩ := gd_some h
  refine g_aald C dX2_restore_41 (okA_of rfl rfl g_3) ?_
  obtain ⟨m_4, hk_4, h⟩ := b1_some h
  refine g_vV (As := [.ref (oa (gw Γ) (rt 7 (gI m_2 6 1).toNatClampNeg))]) (a := 3) (ci := 7) C dX2_restore_42 mf_X7_copyFrom k_54 rfl (by decide) ⟨by decide, by decide⟩ rfl rfl (Nat.le_of_ble_eq_true rfl) (by decide) rfl (c_X7_copyFrom N (gl Γ) C.2.2.2.2 (gw Γ) 3 (rt 7 (gI m_2 6 1).toNatClampNeg) m_2 _ hk_4) ?_
  obtain rfl := Option.some.inj h
  exact hE 45 _ dX2_restore_45
set_option maxRecDepth 100000 in
set_option maxHeartbeats 4000000 in
theorem t_X2_restore (N : Nat) (Γ : Gc) (C : Cx Γ cX2_restore 2 RX2 (rmK 2 81 0))  (m : Mem) (b : Mem) (h : f_X2_restore N  m = some b) (hE : EVn Γ 2 cX2_restore b) : G Γ 2 0 m 0 [(0, .ref (oa (gw Γ) 6)), (1, .ref (oa (gw Γ) 3))] [] := by
  unfold f_X2_restore at h
  refine g_aload_n C dX2_restore_0 0 rfl rfl ?_
  refine g_aload_n C dX2_restore_1 0 rfl rfl ?_
  refine g_getI (ci := 2) (j := 1) C dX2_restore_2 rfl (by decide) rfl inT_X2 (by decide) k_53 rfl rfl ?_
  refine g_if_le (tgt := 17) C dX2_restore_5 (by decide) (fun c_5 => ?_) (fun c_5 => ?_)
  · replace h := it_t c_5 h
    refine g_bipush (v := (9 : Int32)) C dX2_restore_17 (by decide) ?_
    refine g_sub [0, 1] rfl ?_
    exact t_X2_restore_19 N Γ C b hE (9 : Int32) m h
  · replace h := it_f c_5 h
    refine g_aload_n C dX2_restore_8 0 rfl rfl ?_
    refine g_getI (ci := 2) (j := 1) C dX2_restore_9 rfl (by decide) rfl inT_X2 (by decide) k_53 rfl rfl ?_
    refine g_iconst (v := (1 : Int32)) C dX2_restore_12 (by decide) ?_
    refine g_isub C dX2_restore_13 ?_
    refine g_goto (tgt := 19) C dX2_restore_14 (by decide) ?_
    refine g_sub [0, 1] rfl ?_
    exact t_X2_restore_19 N Γ C b hE ((gI m 6 1) - (1 : Int32)) m h
theorem c_X2_restore (N : Nat) (l : Launch) (hst : l.stackTraces = false) (w : Om)  (m : Mem) (o : Mem) (h : f_X2_restore N  m = some o) : KV l yX2_restore cX2_restore 2 none 2 81 w [.ref (oa w 6), .ref (oa w 3)] m o := KV_of hst (by decide +kernel) RX2 rfl (Nat.le_of_ble_eq_true rfl) (fun Γ hw hl C hE => by
  subst hw; subst hl
  exact t_X2_restore N Γ C  m o h hE)
set_option maxRecDepth 100000 in
set_option maxHeartbeats 4000000 in
theorem t_X3_clear (N : Nat) (Γ : Gc) (C : Cx Γ cX3_clear 1 RX3 (rmK 1 20 0))  (m : Mem) (b : Mem) (h : f_X3_clear N  m = some b) (hE : EVn Γ 1 cX3_clear b) : G Γ 1 0 m 0 [(0, .ref (oa (gw Γ) 60))] [] := by
  unfold f_X3_clear at h
  refine g_aload_n C dX3_clear_0 0 rfl rfl ?_
  refine g_getT (b := 61) (ci := 3) (j := 0) C dX3_clear_1 rfl (by decide) rfl inT_X3 (by decide) k_63 rfl rfl rfl rfl ?_
  obtain ⟨m_1, hk_1, h⟩ := b1_some h
  refine g_vV (As := []) (a := 61) (ci := 0) C dX3_clear_4 mf_X0_clear k_64 rfl (by decide) ⟨by decide, by decide⟩ rfl rfl (Nat.le_of_ble_eq_true rfl) (by decide) rfl (c_X0_clear N (gl Γ) C.2.2.2.2 (gw Γ) 61 m _ hk_1) ?_
  refine g_aload_n C dX3_clear_7 0 rfl rfl ?_
  refine g_getT (b := 66) (ci := 3) (j := 1) C dX3_clear_8 rfl (by decide) rfl inT_X3 (by decide) k_68 rfl rfl rfl rfl ?_
  obtain ⟨m_2, hk_2, h⟩ := b1_some h
  refine g_vV (As := []) (a := 66) (ci := 0) C dX3_clear_11 mf_X0_clear k_64 rfl (by decide) ⟨by decide, by decide⟩ rfl rfl (Nat.le_of_ble_eq_true rfl) (by decide) rfl (c_X0_clear N (gl Γ) C.2.2.2.2 (gw Γ) 66 m_1 _ hk_2) ?_
  refine g_aload_n C dX3_clear_14 0 rfl rfl ?_
  refine g_iconst (v := (0 : Int32)) C dX3_clear_15 (by decide) ?_
  obtain ⟨m_3, e_3, h⟩ := wr_some h
  refine g_putI (ci := 3) (j := 2) C dX3_clear_16 rfl (by decide) rfl inT_X3 (by decide) k_69 tyX3 tyX3_ok nmX3 rfl rfl rfl rfl rfl (G_m e_3 ?_)
  obtain rfl := Option.some.inj h
  exact hE 19 _ dX3_clear_19
theorem c_X3_clear (N : Nat) (l : Launch) (hst : l.stackTraces = false) (w : Om)  (m : Mem) (o : Mem) (h : f_X3_clear N  m = some o) : KV l yX3_clear cX3_clear 1 none 1 20 w [.ref (oa w 60)] m o := KV_of hst (by decide +kernel) RX3 rfl (Nat.le_of_ble_eq_true rfl) (fun Γ hw hl C hE => by
  subst hw; subst hl
  exact t_X3_clear N Γ C  m o h hE)
set_option maxRecDepth 100000 in
set_option maxHeartbeats 4000000 in
theorem t_X3_offer_30 (N : Nat) (Γ : Gc) (C : Cx Γ cX3_offer 3 RX3 (rmK 2 48 0)) (b : Mem) (hE : EVn Γ 3 cX3_offer b)  (m : Mem) (h : B_X3_offer_30 N  m = some b) : G Γ 3 0 m 30 [(0, .ref (oa (gw Γ) 60))] [] := by
  unfold B_X3_offer_30 at h
  refine g_aload_n C dX3_offer_30 0 rfl rfl ?_
  refine g_dup C dX3_offer_31 rfl ?_
  refine g_getI (ci := 3) (j := 2) C dX3_offer_32 rfl (by decide) rfl inT_X3 (by decide) k_69 rfl rfl ?_
  refine g_iconst (v := (1 : Int32)) C dX3_offer_35 (by decide) ?_
  refine g_iadd C dX3_offer_36 ?_
  obtain ⟨m_2, e_2, h⟩ := wr_some h
  refine g_putI (ci := 3) (j := 2) C dX3_offer_37 rfl (by decide) rfl inT_X3 (by decide) k_69 tyX3 tyX3_ok nmX3 rfl rfl rfl rfl rfl (G_m e_2 ?_)
  obtain rfl := Option.some.inj h
  exact hE 40 _ dX3_offer_40
set_option maxRecDepth 100000 in
set_option maxHeartbeats 4000000 in
theorem t_X3_offer (N : Nat) (Γ : Gc) (C : Cx Γ cX3_offer 3 RX3 (rmK 2 48 0)) (v1 : Int32) (v2 : Int32) (m : Mem) (b : Mem) (h : f_X3_offer N v1 v2 m = some b) (hE : EVn Γ 3 cX3_offer b) : G Γ 3 0 m 0 [(0, .ref (oa (gw Γ) 60)), (1, .int v1), (2, .int v2)] [] := by
  unfold f_X3_offer at h
  refine g_aload_n C dX3_offer_0 0 rfl rfl ?_
  refine g_getI (ci := 3) (j := 2) C dX3_offer_1 rfl (by decide) rfl inT_X3 (by decide) k_69 rfl rfl ?_
  refine g_iconst (v := (1 : Int32)) C dX3_offer_4 (by decide) ?_
  refine g_iand C dX3_offer_5 ?_
  refine g_if_ne (tgt := 21) C dX3_offer_6 (by decide) (fun c_4 => ?_) (fun c_4 => ?_)
  · replace h := it_f c_4 h
    refine g_aload_n C dX3_offer_21 0 rfl rfl ?_
    refine g_getT (b := 66) (ci := 3) (j := 1) C dX3_offer_22 rfl (by decide) rfl inT_X3 (by decide) k_68 rfl rfl rfl rfl ?_
    refine g_iload_n C dX3_offer_25 1 rfl rfl ?_
    refine g_iload_n C dX3_offer_26 2 rfl rfl ?_
    obtain ⟨m_1, hk_1, h⟩ := b1_some h
    refine g_vV (As := [.int v1, .int v2]) (a := 66) (ci := 0) C dX3_offer_27 mf_X0_add k_70 rfl (by decide) ⟨by decide, by decide⟩ rfl rfl (Nat.le_of_ble_eq_true rfl) (by decide) rfl (c_X0_add N (gl Γ) C.2.2.2.2 (gw Γ) 66 v1 v2 m _ hk_1) ?_
    refine g_sub [0] rfl ?_
    exact t_X3_offer_30 N Γ C b hE  m_1 h
  · replace h := it_t c_4 h
    refine g_aload_n C dX3_offer_9 0 rfl rfl ?_
    refine g_getT (b := 61) (ci := 3) (j := 0) C dX3_offer_10 rfl (by decide) rfl inT_X3 (by decide) k_63 rfl rfl rfl rfl ?_
    refine g_iload_n C dX3_offer_13 1 rfl rfl ?_
    refine g_iload_n C dX3_offer_14 2 rfl rfl ?_
    obtain ⟨m_3, hk_3, h⟩ := b1_some h
    refine g_vV (As := [.int v1, .int v2]) (a := 61) (ci := 0) C dX3_offer_15 mf_X0_add k_70 rfl (by decide) ⟨by decide, by decide⟩ rfl rfl (Nat.le_of_ble_eq_true rfl) (by decide) rfl (c_X0_add N (gl Γ) C.2.2.2.2 (gw Γ) 61 v1 v2 m _ hk_3) ?_
    refine g_goto (tgt := 30) C dX3_offer_18 (by decide) ?_
    refine g_sub [0] rfl ?_
    exact t_X3_offer_30 N Γ C b hE  m_3 h
theorem c_X3_offer (N : Nat) (l : Launch) (hst : l.stackTraces = false) (w : Om) (v1 : Int32) (v2 : Int32) (m : Mem) (o : Mem) (h : f_X3_offer N v1 v2 m = some o) : KV l yX3_offer cX3_offer 3 none 2 48 w [.ref (oa w 60), .int v1, .int v2] m o := KV_of hst (by decide +kernel) RX3 rfl (Nat.le_of_ble_eq_true rfl) (fun Γ hw hl C hE => by
  subst hw; subst hl
  exact t_X3_offer N Γ C v1 v2 m o h hE)
def Ex_X3_best_27 (Γ : Gc) (cs : Nat) (b : Int32 × Int32 × Int32 × Int32 × Mem) : Prop := (∀ (y1 : Int32) (y2 : Int32) (y3 : Int32) (y4 : Int32) (m' : Mem), b = (y1, y2, y3, y4, m') → G Γ 5 cs m' 61 [(0, .ref (oa (gw Γ) 60)), (1, .int y1), (2, .int y2), (3, .int y3), (4, .int y4)] [])
set_option maxRecDepth 100000 in
set_option maxHeartbeats 4000000 in
theorem t_X3_best_27 (N : Nat) (Γ : Gc) (C : Cx Γ cX3_best 5 RX3 (rmK 1 21 0)) (rc : Int32 → Int32 → Int32 → Int32 → Mem → Option (Int32 × Int32 × Int32 × Int32 × Mem)) (b : Int32 × Int32 × Int32 × Int32 × Mem) (hE : Ex_X3_best_27 Γ 0 b) (hrec : ∀ (v1 : Int32) (v2 : Int32) (v3 : Int32) (v4 : Int32) (m : Mem) (b : Int32 × Int32 × Int32 × Int32 × Mem), rc v1 v2 v3 v4 m = some b → Ex_X3_best_27 Γ 0 b → G Γ 5 0 m 27 [(0, .ref (oa (gw Γ) 60)), (1, .int v1), (2, .int v2), (3, .int v3), (4, .int v4)] []) (v1 : Int32) (v2 : Int32) (v3 : Int32) (v4 : Int32) (m : Mem) (h : T_X3_best_27 N rc v1 v2 v3 v4 m = some b) : G Γ 5 0 m 27 [(0, .ref (oa (gw Γ) 60)), (1, .int v1), (2, .int v2), (3, .int v3), (4, .int v4)] [] := by
  unfold T_X3_best_27 at h
  refine g_iload_n C dX3_best_27 3 rfl rfl ?_
  refine g_if_lt (tgt := 61) C dX3_best_28 (by decide) (fun c_4 => ?_) (fun c_4 => ?_)
  · replace h := it_t c_4 h
    obtain rfl := Option.some.inj h
    refine g_sub [0, 1, 2, 3, 4] rfl ?_
    exact hE _ _ _ _ _ rfl
  · replace h := it_f c_4 h
    refine g_aload_n C dX3_best_31 0 rfl rfl ?_
    refine g_getT (b := 61) (ci := 3) (j := 0) C dX3_best_32 rfl (by decide) rfl inT_X3 (by decide) k_63 rfl rfl rfl rfl ?_
    refine g_getR (ci := 0) (j := 0) C dX3_best_35 rfl (by decide) rfl inT_X0 (by decide) k_75 rfl rfl rfl ?_
    refine g_iload C dX3_best_38 4 rfl ?_
    obtain ⟨g_1, h⟩ := gd_some h
    refine g_iald C dX3_best_40 g_1 ?_
    refine g_aload_n C dX3_best_41 0 rfl rfl ?_
    refine g_getT (b := 66) (ci := 3) (j := 1) C dX3_best_42 rfl (by decide) rfl inT_X3 (by decide) k_68 rfl rfl rfl rfl ?_
    refine g_getR (ci := 0) (j := 0) C dX3_best_45 rfl (by decide) rfl inT_X0 (by decide) k_75 rfl rfl rfl ?_
    refine g_iload_n C dX3_best_48 3 rfl rfl ?_
    obtain ⟨g_2, h⟩ := gd_some h
    refine g_iald C dX3_best_49 g_2 ?_
    refine g_iadd C dX3_best_50 ?_
    refine g_iload_n C dX3_best_51 1 rfl rfl ?_
    refine g_icmp_le (tgt := 61) C dX3_best_52 (by decide) (fun c_3 => ?_) (fun c_3 => ?_)
    · replace h := it_t c_3 h
      obtain rfl := Option.some.inj h
      refine g_sub [0, 1, 2, 3, 4] rfl ?_
      exact hE _ _ _ _ _ rfl
    · replace h := it_f c_3 h
      refine g_iinc (q := 3) (v := v3 + (-1 : Int32)) (lv' := [(3, .int (v3 + (-1 : Int32))), (0, .ref (oa (gw Γ) 60)), (1, .int v1), (2, .int v2), (4, .int v4)]) C dX3_best_55 rfl rfl (by decide) rfl ?_
      refine g_goto (tgt := 27) C dX3_best_58 (by decide) ?_
      refine g_sub [1, 2, 3, 0, 4] rfl ?_
      exact hrec v1 v2 (v3 + (-1 : Int32)) v4 m b h hE
theorem lt_X3_best_27 (N : Nat) (Γ : Gc) (C : Cx Γ cX3_best 5 RX3 (rmK 1 21 0)) : ∀ (n : Nat) (v1 : Int32) (v2 : Int32) (v3 : Int32) (v4 : Int32) (m : Mem) (b : Int32 × Int32 × Int32 × Int32 × Mem), L_X3_best_27 N n v1 v2 v3 v4 m = some b → Ex_X3_best_27 Γ 0 b → G Γ 5 0 m 27 [(0, .ref (oa (gw Γ) 60)), (1, .int v1), (2, .int v2), (3, .int v3), (4, .int v4)] [] := by
  intro n
  induction n with
  | zero =>
    intro v1 v2 v3 v4 m b h
    have h9 : (none : Option (Int32 × Int32 × Int32 × Int32 × Mem)) = some b := h
    cases h9
  | succ n ih => intro v1 v2 v3 v4 m b h hE; exact t_X3_best_27 N Γ C (L_X3_best_27 N n) b hE ih v1 v2 v3 v4 m h
def Ex_X3_best_15 (Γ : Gc) (cs : Nat) (b : (Int32 × Mem) ⊕ (Int32 × Mem)) : Prop := (∀ (y2 : Int32) (m' : Mem), b = .inl ((y2, m')) → G Γ 5 cs m' 98 [(2, .int y2)] []) ∧ (∀ (y2 : Int32) (m' : Mem), b = .inr ((y2, m')) → G Γ 5 cs m' 65 [(2, .int y2)] [])
set_option maxRecDepth 100000 in
set_option maxHeartbeats 4000000 in
theorem t_X3_best_61 (N : Nat) (Γ : Gc) (C : Cx Γ cX3_best 5 RX3 (rmK 1 21 0)) (rc : Int32 → Int32 → Int32 → Int32 → Mem → Option ((Int32 × Mem) ⊕ (Int32 × Mem))) (b : (Int32 × Mem) ⊕ (Int32 × Mem)) (hE : Ex_X3_best_15 Γ 0 b) (hrec : ∀ (v1 : Int32) (v2 : Int32) (v3 : Int32) (v4 : Int32) (m : Mem) (b : (Int32 × Mem) ⊕ (Int32 × Mem)), rc v1 v2 v3 v4 m = some b → Ex_X3_best_15 Γ 0 b → G Γ 5 0 m 15 [(0, .ref (oa (gw Γ) 60)), (1, .int v1), (2, .int v2), (3, .int v3), (4, .int v4)] []) (v1 : Int32) (v2 : Int32) (v3 : Int32) (v4 : Int32) (m : Mem) (h : B_X3_best_61 N rc v1 v2 v3 v4 m = some b) : G Γ 5 0 m 61 [(0, .ref (oa (gw Γ) 60)), (1, .int v1), (2, .int v2), (3, .int v3), (4, .int v4)] [] := by
  unfold B_X3_best_61 at h
  refine g_iload_n C dX3_best_61 3 rfl rfl ?_
  refine g_if_ge (tgt := 67) C dX3_best_62 (by decide) (fun c_8 => ?_) (fun c_8 => ?_)
  · replace h := it_t c_8 h
    refine g_iload_n C dX3_best_67 2 rfl rfl ?_
    refine g_aload_n C dX3_best_68 0 rfl rfl ?_
    refine g_getT (b := 61) (ci := 3) (j := 0) C dX3_best_69 rfl (by decide) rfl inT_X3 (by decide) k_63 rfl rfl rfl rfl ?_
    refine g_getR (ci := 0) (j := 1) C dX3_best_72 rfl (by decide) rfl inT_X0 (by decide) k_76 rfl rfl rfl ?_
    refine g_iload C dX3_best_75 4 rfl ?_
    obtain ⟨g_6, h⟩ := gd_some h
    refine g_iald C dX3_best_77 g_6 ?_
    refine g_aload_n C dX3_best_78 0 rfl rfl ?_
    refine g_getT (b := 66) (ci := 3) (j := 1) C dX3_best_79 rfl (by decide) rfl inT_X3 (by decide) k_68 rfl rfl rfl rfl ?_
    refine g_getR (ci := 0) (j := 1) C dX3_best_82 rfl (by decide) rfl inT_X0 (by decide) k_76 rfl rfl rfl ?_
    refine g_iload_n C dX3_best_85 3 rfl rfl ?_
    obtain ⟨g_7, h⟩ := gd_some h
    refine g_iald C dX3_best_86 g_7 ?_
    refine g_iadd C dX3_best_87 ?_
    refine g_max C dX3_best_88 k_77 k_78 k_61 k_79 (by decide) (Nat.le_of_ble_eq_true rfl) (by decide) ?_
    refine g_istore_n (lv' := [(2, .int (if v2 < ((gI m (gR m 61 1) v4.toNatClampNeg) + (gI m (gR m 66 1) v3.toNatClampNeg)) then ((gI m (gR m 61 1) v4.toNatClampNeg) + (gI m (gR m 66 1) v3.toNatClampNeg)) else v2)), (0, .ref (oa (gw Γ) 60)), (1, .int v1), (3, .int v3), (4, .int v4)]) C dX3_best_91 rfl (by decide) rfl ?_
    refine g_iinc (q := 4) (v := v4 + (1 : Int32)) (lv' := [(4, .int (v4 + (1 : Int32))), (2, .int (if v2 < ((gI m (gR m 61 1) v4.toNatClampNeg) + (gI m (gR m 66 1) v3.toNatClampNeg)) then ((gI m (gR m 61 1) v4.toNatClampNeg) + (gI m (gR m 66 1) v3.toNatClampNeg)) else v2)), (0, .ref (oa (gw Γ) 60)), (1, .int v1), (3, .int v3)]) C dX3_best_92 rfl rfl (by decide) rfl ?_
    refine g_goto (tgt := 15) C dX3_best_95 (by decide) ?_
    refine g_sub [2, 3, 1, 4, 0] rfl ?_
    exact hrec v1 (if v2 < ((gI m (gR m 61 1) v4.toNatClampNeg) + (gI m (gR m 66 1) v3.toNatClampNeg)) then ((gI m (gR m 61 1) v4.toNatClampNeg) + (gI m (gR m 66 1) v3.toNatClampNeg)) else v2) v3 (v4 + (1 : Int32)) m b h hE
  · replace h := it_f c_8 h
    obtain rfl := Option.some.inj h
    refine g_sub [2] rfl ?_
    exact hE.2 _ _ rfl
set_option maxRecDepth 100000 in
set_option maxHeartbeats 4000000 in
theorem t_X3_best_15 (N : Nat) (Γ : Gc) (C : Cx Γ cX3_best 5 RX3 (rmK 1 21 0)) (rc : Int32 → Int32 → Int32 → Int32 → Mem → Option ((Int32 × Mem) ⊕ (Int32 × Mem))) (b : (Int32 × Mem) ⊕ (Int32 × Mem)) (hE : Ex_X3_best_15 Γ 0 b) (hrec : ∀ (v1 : Int32) (v2 : Int32) (v3 : Int32) (v4 : Int32) (m : Mem) (b : (Int32 × Mem) ⊕ (Int32 × Mem)), rc v1 v2 v3 v4 m = some b → Ex_X3_best_15 Γ 0 b → G Γ 5 0 m 15 [(0, .ref (oa (gw Γ) 60)), (1, .int v1), (2, .int v2), (3, .int v3), (4, .int v4)] []) (v1 : Int32) (v2 : Int32) (v3 : Int32) (v4 : Int32) (m : Mem) (h : T_X3_best_15 N rc v1 v2 v3 v4 m = some b) : G Γ 5 0 m 15 [(0, .ref (oa (gw Γ) 60)), (1, .int v1), (2, .int v2), (3, .int v3), (4, .int v4)] [] := by
  unfold T_X3_best_15 at h
  refine g_iload C dX3_best_15 4 rfl ?_
  refine g_aload_n C dX3_best_17 0 rfl rfl ?_
  refine g_getT (b := 61) (ci := 3) (j := 0) C dX3_best_18 rfl (by decide) rfl inT_X3 (by decide) k_63 rfl rfl rfl rfl ?_
  refine g_getI (ci := 0) (j := 2) C dX3_best_21 rfl (by decide) rfl inT_X0 (by decide) k_74 rfl rfl ?_
  refine g_icmp_ge (tgt := 98) C dX3_best_24 (by decide) (fun c_9 => ?_) (fun c_9 => ?_)
  · replace h := it_t c_9 h
    obtain rfl := Option.some.inj h
    refine g_sub [2] rfl ?_
    exact hE.1 _ _ rfl
  · replace h := it_f c_9 h
    obtain ⟨v1_5, v2_5, v3_5, v4_5, m_5, hx, h⟩ := l5_some h
    refine g_sub [0, 1, 2, 3, 4] rfl ?_
    refine lt_X3_best_27 N Γ C N v1 v2 v3 v4 m _ hx ?_
    intro z1 z2 z3 z4 m9 e9
    cases e9
    refine g_sub [0, 1, 2, 3, 4] rfl ?_
    exact t_X3_best_61 N Γ C rc b hE hrec v1_5 v2_5 v3_5 v4_5 m_5 h
theorem lt_X3_best_15 (N : Nat) (Γ : Gc) (C : Cx Γ cX3_best 5 RX3 (rmK 1 21 0)) : ∀ (n : Nat) (v1 : Int32) (v2 : Int32) (v3 : Int32) (v4 : Int32) (m : Mem) (b : (Int32 × Mem) ⊕ (Int32 × Mem)), L_X3_best_15 N n v1 v2 v3 v4 m = some b → Ex_X3_best_15 Γ 0 b → G Γ 5 0 m 15 [(0, .ref (oa (gw Γ) 60)), (1, .int v1), (2, .int v2), (3, .int v3), (4, .int v4)] [] := by
  intro n
  induction n with
  | zero =>
    intro v1 v2 v3 v4 m b h
    have h9 : (none : Option ((Int32 × Mem) ⊕ (Int32 × Mem))) = some b := h
    cases h9
  | succ n ih => intro v1 v2 v3 v4 m b h hE; exact t_X3_best_15 N Γ C (L_X3_best_15 N n) b hE ih v1 v2 v3 v4 m h
set_option maxRecDepth 100000 in
set_option maxHeartbeats 4000000 in
theorem t_X3_best (N : Nat) (Γ : Gc) (C : Cx Γ cX3_best 5 RX3 (rmK 1 21 0)) (v1 : Int32) (m : Mem) (b : Int32 × Mem) (h : f_X3_best N v1 m = some b) (hE : EIn Γ 5 cX3_best b) : G Γ 5 0 m 0 [(0, .ref (oa (gw Γ) 60)), (1, .int v1)] [] := by
  unfold f_X3_best at h
  refine g_iconst (v := (0 : Int32)) C dX3_best_0 (by decide) ?_
  refine g_istore_n (lv' := [(2, .int (0 : Int32)), (0, .ref (oa (gw Γ) 60)), (1, .int v1)]) C dX3_best_1 rfl (by decide) rfl ?_
  refine g_aload_n C dX3_best_2 1 rfl rfl ?_
  refine g_getT (b := 66) (ci := 3) (j := 1) C dX3_best_3 rfl (by decide) rfl inT_X3 (by decide) k_68 rfl rfl rfl rfl ?_
  refine g_getI (ci := 0) (j := 2) C dX3_best_6 rfl (by decide) rfl inT_X0 (by decide) k_74 rfl rfl ?_
  refine g_iconst (v := (1 : Int32)) C dX3_best_9 (by decide) ?_
  refine g_isub C dX3_best_10 ?_
  refine g_istore_n (lv' := [(3, .int ((gI m 66 2) - (1 : Int32))), (2, .int (0 : Int32)), (0, .ref (oa (gw Γ) 60)), (1, .int v1)]) C dX3_best_11 rfl (by decide) rfl ?_
  refine g_iconst (v := (0 : Int32)) C dX3_best_12 (by decide) ?_
  refine g_istore (lv' := [(4, .int (0 : Int32)), (3, .int ((gI m 66 2) - (1 : Int32))), (2, .int (0 : Int32)), (0, .ref (oa (gw Γ) 60)), (1, .int v1)]) C dX3_best_13 (by decide) rfl ?_
  obtain ⟨x9, hx, h⟩ := ob_some h
  refine g_sub [3, 4, 2, 1, 0] rfl ?_
  refine lt_X3_best_15 N Γ C N v1 (0 : Int32) ((gI m 66 2) - (1 : Int32)) (0 : Int32) m _ hx ?_
  refine ⟨?_, ?_⟩
  · intro v2_10 m_10 e9
    subst e9
    replace h : (some (v2_10, m_10)) = some b := h
    refine g_iload_n C dX3_best_98 0 rfl rfl ?_
    obtain rfl := Option.some.inj h
    exact hE 99 _ dX3_best_99
  · intro v2_10 m_10 e9
    subst e9
    replace h : (some (v2_10, m_10)) = some b := h
    refine g_iload_n C dX3_best_65 0 rfl rfl ?_
    obtain rfl := Option.some.inj h
    exact hE 66 _ dX3_best_66
theorem c_X3_best (N : Nat) (l : Launch) (hst : l.stackTraces = false) (w : Om) (v1 : Int32) (m : Mem) (o : Int32 × Mem) (h : f_X3_best N v1 m = some o) : KI l yX3_best cX3_best 5 (some .int) 1 21 w [.ref (oa w 60), .int v1] m o.1 o.2 := KI_of hst (by decide +kernel) RX3 rfl (Nat.le_of_ble_eq_true rfl) (fun Γ hw hl C hE => by
  subst hw; subst hl
  exact t_X3_best N Γ C v1 m o h hE)
def Ex_X4_bestEnd_4 (Γ : Gc) (cs : Nat) (b : Int32 × Mem) : Prop := (∀ (y1 : Int32) (m' : Mem), b = (y1, m') → G Γ 3 cs m' 59 [(1, .int y1)] [])
set_option maxRecDepth 100000 in
set_option maxHeartbeats 4000000 in
theorem t_X4_bestEnd_51 (N : Nat) (Γ : Gc) (C : Cx Γ cX4_bestEnd 3 RX4 (rmK 0 0 0)) (rc : Int32 → Int32 → Mem → Option (Int32 × Mem)) (b : Int32 × Mem) (hE : Ex_X4_bestEnd_4 Γ 0 b) (hrec : ∀ (v1 : Int32) (v2 : Int32) (m : Mem) (b : Int32 × Mem), rc v1 v2 m = some b → Ex_X4_bestEnd_4 Γ 0 b → G Γ 3 0 m 4 [(0, .ref (oa (gw Γ) 51)), (1, .int v1), (2, .int v2)] []) (v2 : Int32) (m : Mem) (h : B_X4_bestEnd_51 N rc v2 m = some b) : G Γ 3 0 m 51 [(0, .ref (oa (gw Γ) 51)), (2, .int v2)] [] := by
  unfold B_X4_bestEnd_51 at h
  refine g_iload_n C dX4_bestEnd_51 1 rfl rfl ?_
  refine g_istore_n (lv' := [(1, .int v2), (0, .ref (oa (gw Γ) 51)), (2, .int v2)]) C dX4_bestEnd_52 rfl (by decide) rfl ?_
  refine g_iinc (q := 2) (v := v2 + (1 : Int32)) (lv' := [(2, .int (v2 + (1 : Int32))), (1, .int v2), (0, .ref (oa (gw Γ) 51))]) C dX4_bestEnd_53 rfl rfl (by decide) rfl ?_
  refine g_goto (tgt := 4) C dX4_bestEnd_56 (by decide) ?_
  refine g_sub [2, 1, 0] rfl ?_
  exact hrec v2 (v2 + (1 : Int32)) m b h hE
set_option maxRecDepth 100000 in
set_option maxHeartbeats 4000000 in
theorem t_X4_bestEnd_4 (N : Nat) (Γ : Gc) (C : Cx Γ cX4_bestEnd 3 RX4 (rmK 0 0 0)) (rc : Int32 → Int32 → Mem → Option (Int32 × Mem)) (b : Int32 × Mem) (hE : Ex_X4_bestEnd_4 Γ 0 b) (hrec : ∀ (v1 : Int32) (v2 : Int32) (m : Mem) (b : Int32 × Mem), rc v1 v2 m = some b → Ex_X4_bestEnd_4 Γ 0 b → G Γ 3 0 m 4 [(0, .ref (oa (gw Γ) 51)), (1, .int v1), (2, .int v2)] []) (v1 : Int32) (v2 : Int32) (m : Mem) (h : T_X4_bestEnd_4 N rc v1 v2 m = some b) : G Γ 3 0 m 4 [(0, .ref (oa (gw Γ) 51)), (1, .int v1), (2, .int v2)] [] := by
  unfold T_X4_bestEnd_4 at h
  refine g_iload_n C dX4_bestEnd_4 2 rfl rfl ?_
  refine g_aload_n C dX4_bestEnd_5 0 rfl rfl ?_
  refine g_getI (ci := 4) (j := 8) C dX4_bestEnd_6 rfl (by decide) rfl inT_X4 (by decide) k_80 rfl rfl ?_
  refine g_icmp_ge (tgt := 59) C dX4_bestEnd_9 (by decide) (fun c_7 => ?_) (fun c_7 => ?_)
  · replace h := it_t c_7 h
    obtain rfl := Option.some.inj h
    refine g_sub [1] rfl ?_
    exact hE _ _ rfl
  · replace h := it_f c_7 h
    refine g_aload_n C dX4_bestEnd_12 0 rfl rfl ?_
    refine g_getT (b := 54) (ci := 4) (j := 2) C dX4_bestEnd_13 rfl (by decide) rfl inT_X4 (by decide) k_81 rfl rfl rfl rfl ?_
    refine g_iload_n C dX4_bestEnd_16 2 rfl rfl ?_
    obtain ⟨g_1, h⟩ := gd_some h
    refine g_iald C dX4_bestEnd_17 (okA_of rfl rfl g_1) ?_
    refine g_if_le (tgt := 53) C dX4_bestEnd_18 (by decide) (fun c_6 => ?_) (fun c_6 => ?_)
    · replace h := it_t c_6 h
      refine g_iinc (q := 2) (v := v2 + (1 : Int32)) (lv' := [(2, .int (v2 + (1 : Int32))), (0, .ref (oa (gw Γ) 51)), (1, .int v1)]) C dX4_bestEnd_53 rfl rfl (by decide) rfl ?_
      refine g_goto (tgt := 4) C dX4_bestEnd_56 (by decide) ?_
      refine g_sub [1, 2, 0] rfl ?_
      exact hrec v1 (v2 + (1 : Int32)) m b h hE
    · replace h := it_f c_6 h
      refine g_aload_n C dX4_bestEnd_21 0 rfl rfl ?_
      refine g_getT (b := 57) (ci := 4) (j := 5) C dX4_bestEnd_22 rfl (by decide) rfl inT_X4 (by decide) k_82 rfl rfl rfl rfl ?_
      refine g_iload_n C dX4_bestEnd_25 2 rfl rfl ?_
      refine g_iald C dX4_bestEnd_26 (okA_of rfl rfl g_1) ?_
      refine g_iconst (v := (-1 : Int32)) C dX4_bestEnd_27 (by decide) ?_
      refine g_icmp_eq (tgt := 53) C dX4_bestEnd_28 (by decide) (fun c_5 => ?_) (fun c_5 => ?_)
      · replace h := it_t c_5 h
        refine g_iinc (q := 2) (v := v2 + (1 : Int32)) (lv' := [(2, .int (v2 + (1 : Int32))), (0, .ref (oa (gw Γ) 51)), (1, .int v1)]) C dX4_bestEnd_53 rfl rfl (by decide) rfl ?_
        refine g_goto (tgt := 4) C dX4_bestEnd_56 (by decide) ?_
        refine g_sub [1, 2, 0] rfl ?_
        exact hrec v1 (v2 + (1 : Int32)) m b h hE
      · replace h := it_f c_5 h
        refine g_iload_n C dX4_bestEnd_31 1 rfl rfl ?_
        refine g_iconst (v := (-1 : Int32)) C dX4_bestEnd_32 (by decide) ?_
        refine g_icmp_eq (tgt := 51) C dX4_bestEnd_33 (by decide) (fun c_4 => ?_) (fun c_4 => ?_)
        · replace h := it_t c_4 h
          refine g_sub [0, 2] rfl ?_
          exact t_X4_bestEnd_51 N Γ C rc b hE hrec v2 m h
        · replace h := it_f c_4 h
          refine g_aload_n C dX4_bestEnd_36 0 rfl rfl ?_
          refine g_getT (b := 56) (ci := 4) (j := 4) C dX4_bestEnd_37 rfl (by decide) rfl inT_X4 (by decide) k_83 rfl rfl rfl rfl ?_
          refine g_iload_n C dX4_bestEnd_40 2 rfl rfl ?_
          refine g_iald C dX4_bestEnd_41 (okA_of rfl rfl g_1) ?_
          refine g_aload_n C dX4_bestEnd_42 0 rfl rfl ?_
          refine g_getT (b := 56) (ci := 4) (j := 4) C dX4_bestEnd_43 rfl (by decide) rfl inT_X4 (by decide) k_83 rfl rfl rfl rfl ?_
          refine g_iload_n C dX4_bestEnd_46 1 rfl rfl ?_
          obtain ⟨g_2, h⟩ := gd_some h
          refine g_iald C dX4_bestEnd_47 (okA_of rfl rfl g_2) ?_
          refine g_icmp_le (tgt := 53) C dX4_bestEnd_48 (by decide) (fun c_3 => ?_) (fun c_3 => ?_)
          · replace h := it_t c_3 h
            refine g_iinc (q := 2) (v := v2 + (1 : Int32)) (lv' := [(2, .int (v2 + (1 : Int32))), (0, .ref (oa (gw Γ) 51)), (1, .int v1)]) C dX4_bestEnd_53 rfl rfl (by decide) rfl ?_
            refine g_goto (tgt := 4) C dX4_bestEnd_56 (by decide) ?_
            refine g_sub [1, 2, 0] rfl ?_
            exact hrec v1 (v2 + (1 : Int32)) m b h hE
          · replace h := it_f c_3 h
            refine g_sub [0, 2] rfl ?_
            exact t_X4_bestEnd_51 N Γ C rc b hE hrec v2 m h
theorem lt_X4_bestEnd_4 (N : Nat) (Γ : Gc) (C : Cx Γ cX4_bestEnd 3 RX4 (rmK 0 0 0)) : ∀ (n : Nat) (v1 : Int32) (v2 : Int32) (m : Mem) (b : Int32 × Mem), L_X4_bestEnd_4 N n v1 v2 m = some b → Ex_X4_bestEnd_4 Γ 0 b → G Γ 3 0 m 4 [(0, .ref (oa (gw Γ) 51)), (1, .int v1), (2, .int v2)] [] := by
  intro n
  induction n with
  | zero =>
    intro v1 v2 m b h
    have h9 : (none : Option (Int32 × Mem)) = some b := h
    cases h9
  | succ n ih => intro v1 v2 m b h hE; exact t_X4_bestEnd_4 N Γ C (L_X4_bestEnd_4 N n) b hE ih v1 v2 m h
set_option maxRecDepth 100000 in
set_option maxHeartbeats 4000000 in
theorem t_X4_bestEnd (N : Nat) (Γ : Gc) (C : Cx Γ cX4_bestEnd 3 RX4 (rmK 0 0 0))  (m : Mem) (b : Int32 × Mem) (h : f_X4_bestEnd N  m = some b) (hE : EIn Γ 3 cX4_bestEnd b) : G Γ 3 0 m 0 [(0, .ref (oa (gw Γ) 51))] [] := by
  unfold f_X4_bestEnd at h
  refine g_iconst (v := (-1 : Int32)) C dX4_bestEnd_0 (by decide) ?_
  refine g_istore_n (lv' := [(1, .int (-1 : Int32)), (0, .ref (oa (gw Γ) 51))]) C dX4_bestEnd_1 rfl (by decide) rfl ?_
  refine g_iconst (v := (0 : Int32)) C dX4_bestEnd_2 (by decide) ?_
  refine g_istore_n (lv' := [(2, .int (0 : Int32)), (1, .int (-1 : Int32)), (0, .ref (oa (gw Γ) 51))]) C dX4_bestEnd_3 rfl (by decide) rfl ?_
  obtain ⟨v1_8, m_8, hx, h⟩ := l2_some h
  refine g_sub [2, 1, 0] rfl ?_
  refine lt_X4_bestEnd_4 N Γ C N (-1 : Int32) (0 : Int32) m _ hx ?_
  intro z1 m9 e9
  cases e9
  refine g_iload_n C dX4_bestEnd_59 0 rfl rfl ?_
  obtain rfl := Option.some.inj h
  exact hE 60 _ dX4_bestEnd_60
theorem c_X4_bestEnd (N : Nat) (l : Launch) (hst : l.stackTraces = false) (w : Om)  (m : Mem) (o : Int32 × Mem) (h : f_X4_bestEnd N  m = some o) : KI l yX4_bestEnd cX4_bestEnd 3 (some .int) 0 0 w [.ref (oa w 51)] m o.1 o.2 := KI_of hst (by decide +kernel) RX4 rfl (Nat.le_of_ble_eq_true rfl) (fun Γ hw hl C hE => by
  subst hw; subst hl
  exact t_X4_bestEnd N Γ C  m o h hE)
set_option maxRecDepth 100000 in
set_option maxHeartbeats 4000000 in
theorem t_X9_cell (N : Nat) (Γ : Gc) (C : Cx Γ cX9_cell 2 RX9 (rmK 0 0 0)) (v0 : Int32) (v1 : Int32) (m : Mem) (b : Int32 × Mem) (h : f_X9_cell N v0 v1 m = some b) (hE : EIn Γ 2 cX9_cell b) : G Γ 2 0 m 0 [(0, .int v0), (1, .int v1)] [] := by
  unfold f_X9_cell at h
  refine g_iload_n C dX9_cell_0 0 rfl rfl ?_
  refine g_bipush (v := (16 : Int32)) C dX9_cell_1 (by decide) ?_
  refine g_imul C dX9_cell_3 ?_
  refine g_iload_n C dX9_cell_4 1 rfl rfl ?_
  refine g_iadd C dX9_cell_5 ?_
  obtain rfl := Option.some.inj h
  exact hE 6 _ dX9_cell_6
theorem c_X9_cell (N : Nat) (l : Launch) (hst : l.stackTraces = false) (w : Om) (v0 : Int32) (v1 : Int32) (m : Mem) (o : Int32 × Mem) (h : f_X9_cell N v0 v1 m = some o) : KI l yX9_cell cX9_cell 2 (some .int) 0 0 w [.int v0, .int v1] m o.1 o.2 := KI_of hst (by decide +kernel) RX9 rfl (Nat.le_of_ble_eq_true rfl) (fun Γ hw hl C hE => by
  subst hw; subst hl
  exact t_X9_cell N Γ C v0 v1 m o h hE)
def Ex_X4_reachProposals_14 (Γ : Gc) (cs : Nat) (b : Int32 × Int32 × Mem) : Prop := (∀ (y1 : Int32) (y2 : Int32) (m' : Mem), b = (y1, y2, m') → G Γ 5 cs m' 108 [(0, .ref (oa (gw Γ) 51)), (1, .int y1), (2, .int y2)] [])
set_option maxRecDepth 100000 in
set_option maxHeartbeats 4000000 in
theorem t_X4_reachProposals_14 (N : Nat) (Γ : Gc) (C : Cx Γ cX4_reachProposals 5 RX4 (rmK 1 21 0)) (rc : Int32 → Int32 → Int32 → Mem → Option (Int32 × Int32 × Mem)) (b : Int32 × Int32 × Mem) (hE : Ex_X4_reachProposals_14 Γ 0 b) (hrec : ∀ (v1 : Int32) (v2 : Int32) (v3 : Int32) (m : Mem) (b : Int32 × Int32 × Mem), rc v1 v2 v3 m = some b → Ex_X4_reachProposals_14 Γ 0 b → G Γ 5 0 m 14 [(0, .ref (oa (gw Γ) 51)), (1, .int v1), (2, .int v2), (3, .int v3)] []) (v1 : Int32) (v2 : Int32) (v3 : Int32) (m : Mem) (h : T_X4_reachProposals_14 N rc v1 v2 v3 m = some b) : G Γ 5 0 m 14 [(0, .ref (oa (gw Γ) 51)), (1, .int v1), (2, .int v2), (3, .int v3)] [] := by
  unfold T_X4_reachProposals_14 at h
  refine g_iload_n C dX4_reachProposals_14 3 rfl rfl ?_
  refine g_aload_n C dX4_reachProposals_15 0 rfl rfl ?_
  refine g_getI (ci := 4) (j := 9) C dX4_reachProposals_16 rfl (by decide) rfl inT_X4 (by decide) k_84 rfl rfl ?_
  refine g_icmp_ge (tgt := 108) C dX4_reachProposals_19 (by decide) (fun c_10 => ?_) (fun c_10 => ?_)
  · replace h := it_t c_10 h
    obtain rfl := Option.some.inj h
    refine g_sub [0, 1, 2] rfl ?_
    exact hE _ _ _ rfl
  · replace h := it_f c_10 h
    refine g_aload_n C dX4_reachProposals_22 0 rfl rfl ?_
    refine g_getT (b := 56) (ci := 4) (j := 4) C dX4_reachProposals_23 rfl (by decide) rfl inT_X4 (by decide) k_83 rfl rfl rfl rfl ?_
    refine g_iload_n C dX4_reachProposals_26 2 rfl rfl ?_
    obtain ⟨g_1, h⟩ := gd_some h
    refine g_iald C dX4_reachProposals_27 (okA_of rfl rfl g_1) ?_
    refine g_ldc (v := (-1000000 : Int32)) C dX4_reachProposals_28 k_85 ?_
    refine g_icmp_eq (tgt := 108) C dX4_reachProposals_30 (by decide) (fun c_9 => ?_) (fun c_9 => ?_)
    · replace h := it_t c_9 h
      obtain rfl := Option.some.inj h
      refine g_sub [0, 1, 2] rfl ?_
      exact hE _ _ _ rfl
    · replace h := it_f c_9 h
      refine g_iload_n C dX4_reachProposals_33 2 rfl rfl ?_
      refine g_iload_n C dX4_reachProposals_34 3 rfl rfl ?_
      obtain ⟨r_2, m_2, hk_2, h⟩ := b2_some h
      refine g_nI (As := [.int v2, .int v3]) C dX4_reachProposals_35 mf_X9_cell (List.mem_of_getElem? (i := 2) rfl) ⟨by decide, by decide⟩ rfl rfl (Nat.le_of_ble_eq_true rfl) (by decide) (c_X9_cell N (gl Γ) C.2.2.2.2 (gw Γ) v2 v3 m _ hk_2) ?_
      refine g_istore (lv' := [(4, .int r_2), (0, .ref (oa (gw Γ) 51)), (1, .int v1), (2, .int v2), (3, .int v3)]) C dX4_reachProposals_38 (by decide) rfl ?_
      refine g_aload_n C dX4_reachProposals_40 1 rfl rfl ?_
      refine g_getT (b := 53) (ci := 4) (j := 1) C dX4_reachProposals_41 rfl (by decide) rfl inT_X4 (by decide) k_89 rfl rfl rfl rfl ?_
      refine g_iload C dX4_reachProposals_44 0 rfl ?_
      obtain ⟨g_3, h⟩ := gd_some h
      refine g_zald C dX4_reachProposals_46 (okA_of rfl rfl g_3) ?_
      refine g_if_eq (tgt := 102) C dX4_reachProposals_47 (by decide) (fun c_8 => ?_) (fun c_8 => ?_)
      · replace h := it_t c_8 h
        refine g_iinc (q := 4) (v := v3 + (1 : Int32)) (lv' := [(3, .int (v3 + (1 : Int32))), (4, .int r_2), (0, .ref (oa (gw Γ) 51)), (1, .int v1), (2, .int v2)]) C dX4_reachProposals_102 rfl rfl (by decide) rfl ?_
        refine g_goto (tgt := 14) C dX4_reachProposals_105 (by decide) ?_
        refine g_sub [2, 3, 4, 0] rfl ?_
        exact hrec v1 v2 (v3 + (1 : Int32)) m_2 b h hE
      · replace h := it_f c_8 h
        refine g_aload_n C dX4_reachProposals_50 1 rfl rfl ?_
        refine g_getT (b := 56) (ci := 4) (j := 4) C dX4_reachProposals_51 rfl (by decide) rfl inT_X4 (by decide) k_83 rfl rfl rfl rfl ?_
        refine g_iload_n C dX4_reachProposals_54 3 rfl rfl ?_
        refine g_iald C dX4_reachProposals_55 (okA_of rfl rfl g_1) ?_
        refine g_aload_n C dX4_reachProposals_56 1 rfl rfl ?_
        refine g_getT (b := 52) (ci := 4) (j := 0) C dX4_reachProposals_57 rfl (by decide) rfl inT_X4 (by decide) k_90 rfl rfl rfl rfl ?_
        refine g_iload C dX4_reachProposals_60 0 rfl ?_
        refine g_iald C dX4_reachProposals_62 (okA_of rfl rfl g_3) ?_
        refine g_isub C dX4_reachProposals_63 ?_
        refine g_aload_n C dX4_reachProposals_64 1 rfl rfl ?_
        refine g_getT (b := 58) (ci := 4) (j := 6) C dX4_reachProposals_65 rfl (by decide) rfl inT_X4 (by decide) k_91 rfl rfl rfl rfl ?_
        refine g_iload_n C dX4_reachProposals_68 4 rfl rfl ?_
        obtain ⟨g_4, h⟩ := gd_some h
        refine g_iald C dX4_reachProposals_69 (okA_of rfl rfl g_4) ?_
        refine g_icmp_le (tgt := 102) C dX4_reachProposals_70 (by decide) (fun c_7 => ?_) (fun c_7 => ?_)
        · replace h := it_t c_7 h
          refine g_iinc (q := 4) (v := v3 + (1 : Int32)) (lv' := [(3, .int (v3 + (1 : Int32))), (4, .int r_2), (0, .ref (oa (gw Γ) 51)), (1, .int v1), (2, .int v2)]) C dX4_reachProposals_102 rfl rfl (by decide) rfl ?_
          refine g_goto (tgt := 14) C dX4_reachProposals_105 (by decide) ?_
          refine g_sub [2, 3, 4, 0] rfl ?_
          exact hrec v1 v2 (v3 + (1 : Int32)) m_2 b h hE
        · replace h := it_f c_7 h
          refine g_aload_n C dX4_reachProposals_73 1 rfl rfl ?_
          refine g_getT (b := 58) (ci := 4) (j := 6) C dX4_reachProposals_74 rfl (by decide) rfl inT_X4 (by decide) k_91 rfl rfl rfl rfl ?_
          refine g_iload_n C dX4_reachProposals_77 4 rfl rfl ?_
          refine g_aload_n C dX4_reachProposals_78 1 rfl rfl ?_
          refine g_getT (b := 56) (ci := 4) (j := 4) C dX4_reachProposals_79 rfl (by decide) rfl inT_X4 (by decide) k_83 rfl rfl rfl rfl ?_
          refine g_iload_n C dX4_reachProposals_82 3 rfl rfl ?_
          refine g_iald C dX4_reachProposals_83 (okA_of rfl rfl g_1) ?_
          refine g_aload_n C dX4_reachProposals_84 1 rfl rfl ?_
          refine g_getT (b := 52) (ci := 4) (j := 0) C dX4_reachProposals_85 rfl (by decide) rfl inT_X4 (by decide) k_90 rfl rfl rfl rfl ?_
          refine g_iload C dX4_reachProposals_88 0 rfl ?_
          refine g_iald C dX4_reachProposals_90 (okA_of rfl rfl g_3) ?_
          refine g_isub C dX4_reachProposals_91 ?_
          obtain ⟨m_5, e_5, h⟩ := wr_some h
          refine g_iast C dX4_reachProposals_92 (okA_of rfl rfl g_4) (G_m e_5 ?_)
          refine g_aload_n C dX4_reachProposals_93 1 rfl rfl ?_
          refine g_getT (b := 59) (ci := 4) (j := 7) C dX4_reachProposals_94 rfl (by decide) rfl inT_X4 (by decide) k_92 rfl rfl rfl rfl ?_
          refine g_iload_n C dX4_reachProposals_97 4 rfl rfl ?_
          refine g_iload_n C dX4_reachProposals_98 3 rfl rfl ?_
          obtain ⟨m_6, e_6, h⟩ := wr_some h
          refine g_iast C dX4_reachProposals_99 (okA_of rfl rfl g_4) (G_m e_6 ?_)
          refine g_iconst (v := (1 : Int32)) C dX4_reachProposals_100 (by decide) ?_
          refine g_istore_n (lv' := [(1, .int (1 : Int32)), (4, .int r_2), (0, .ref (oa (gw Γ) 51)), (2, .int v2), (3, .int v3)]) C dX4_reachProposals_101 rfl (by decide) rfl ?_
          refine g_iinc (q := 4) (v := v3 + (1 : Int32)) (lv' := [(3, .int (v3 + (1 : Int32))), (1, .int (1 : Int32)), (4, .int r_2), (0, .ref (oa (gw Γ) 51)), (2, .int v2)]) C dX4_reachProposals_102 rfl rfl (by decide) rfl ?_
          refine g_goto (tgt := 14) C dX4_reachProposals_105 (by decide) ?_
          refine g_sub [3, 1, 4, 0] rfl ?_
          exact hrec (1 : Int32) v2 (v3 + (1 : Int32)) m_6 b h hE
theorem lt_X4_reachProposals_14 (N : Nat) (Γ : Gc) (C : Cx Γ cX4_reachProposals 5 RX4 (rmK 1 21 0)) : ∀ (n : Nat) (v1 : Int32) (v2 : Int32) (v3 : Int32) (m : Mem) (b : Int32 × Int32 × Mem), L_X4_reachProposals_14 N n v1 v2 v3 m = some b → Ex_X4_reachProposals_14 Γ 0 b → G Γ 5 0 m 14 [(0, .ref (oa (gw Γ) 51)), (1, .int v1), (2, .int v2), (3, .int v3)] [] := by
  intro n
  induction n with
  | zero =>
    intro v1 v2 v3 m b h
    have h9 : (none : Option (Int32 × Int32 × Mem)) = some b := h
    cases h9
  | succ n ih => intro v1 v2 v3 m b h hE; exact t_X4_reachProposals_14 N Γ C (L_X4_reachProposals_14 N n) b hE ih v1 v2 v3 m h
def Ex_X4_reachProposals_4 (Γ : Gc) (cs : Nat) (b : Int32 × Mem) : Prop := (∀ (y1 : Int32) (m' : Mem), b = (y1, m') → G Γ 5 cs m' 114 [(1, .int y1)] [])
set_option maxRecDepth 100000 in
set_option maxHeartbeats 4000000 in
theorem t_X4_reachProposals_4 (N : Nat) (Γ : Gc) (C : Cx Γ cX4_reachProposals 5 RX4 (rmK 1 21 0)) (rc : Int32 → Int32 → Mem → Option (Int32 × Mem)) (b : Int32 × Mem) (hE : Ex_X4_reachProposals_4 Γ 0 b) (hrec : ∀ (v1 : Int32) (v2 : Int32) (m : Mem) (b : Int32 × Mem), rc v1 v2 m = some b → Ex_X4_reachProposals_4 Γ 0 b → G Γ 5 0 m 4 [(0, .ref (oa (gw Γ) 51)), (1, .int v1), (2, .int v2)] []) (v1 : Int32) (v2 : Int32) (m : Mem) (h : T_X4_reachProposals_4 N rc v1 v2 m = some b) : G Γ 5 0 m 4 [(0, .ref (oa (gw Γ) 51)), (1, .int v1), (2, .int v2)] [] := by
  unfold T_X4_reachProposals_4 at h
  refine g_iload_n C dX4_reachProposals_4 2 rfl rfl ?_
  refine g_aload_n C dX4_reachProposals_5 0 rfl rfl ?_
  refine g_getI (ci := 4) (j := 8) C dX4_reachProposals_6 rfl (by decide) rfl inT_X4 (by decide) k_80 rfl rfl ?_
  refine g_icmp_ge (tgt := 114) C dX4_reachProposals_9 (by decide) (fun c_12 => ?_) (fun c_12 => ?_)
  · replace h := it_t c_12 h
    obtain rfl := Option.some.inj h
    refine g_sub [1] rfl ?_
    exact hE _ _ rfl
  · replace h := it_f c_12 h
    refine g_iconst (v := (0 : Int32)) C dX4_reachProposals_12 (by decide) ?_
    refine g_istore_n (lv' := [(3, .int (0 : Int32)), (0, .ref (oa (gw Γ) 51)), (1, .int v1), (2, .int v2)]) C dX4_reachProposals_13 rfl (by decide) rfl ?_
    obtain ⟨v1_11, v2_11, m_11, hx, h⟩ := l3_some h
    refine g_sub [1, 2, 3, 0] rfl ?_
    refine lt_X4_reachProposals_14 N Γ C N v1 v2 (0 : Int32) m _ hx ?_
    intro z1 z2 m9 e9
    cases e9
    refine g_iinc (q := 2) (v := v2_11 + (1 : Int32)) (lv' := [(2, .int (v2_11 + (1 : Int32))), (0, .ref (oa (gw Γ) 51)), (1, .int v1_11)]) C dX4_reachProposals_108 rfl rfl (by decide) rfl ?_
    refine g_goto (tgt := 4) C dX4_reachProposals_111 (by decide) ?_
    refine g_sub [1, 2, 0] rfl ?_
    exact hrec v1_11 (v2_11 + (1 : Int32)) m_11 b h hE
theorem lt_X4_reachProposals_4 (N : Nat) (Γ : Gc) (C : Cx Γ cX4_reachProposals 5 RX4 (rmK 1 21 0)) : ∀ (n : Nat) (v1 : Int32) (v2 : Int32) (m : Mem) (b : Int32 × Mem), L_X4_reachProposals_4 N n v1 v2 m = some b → Ex_X4_reachProposals_4 Γ 0 b → G Γ 5 0 m 4 [(0, .ref (oa (gw Γ) 51)), (1, .int v1), (2, .int v2)] [] := by
  intro n
  induction n with
  | zero =>
    intro v1 v2 m b h
    have h9 : (none : Option (Int32 × Mem)) = some b := h
    cases h9
  | succ n ih => intro v1 v2 m b h hE; exact t_X4_reachProposals_4 N Γ C (L_X4_reachProposals_4 N n) b hE ih v1 v2 m h
set_option maxRecDepth 100000 in
set_option maxHeartbeats 4000000 in
theorem t_X4_reachProposals (N : Nat) (Γ : Gc) (C : Cx Γ cX4_reachProposals 5 RX4 (rmK 1 21 0))  (m : Mem) (b : Int32 × Mem) (h : f_X4_reachProposals N  m = some b) (hE : EZn Γ 5 cX4_reachProposals b) : G Γ 5 0 m 0 [(0, .ref (oa (gw Γ) 51))] [] := by
  unfold f_X4_reachProposals at h
  refine g_iconst (v := (0 : Int32)) C dX4_reachProposals_0 (by decide) ?_
  refine g_istore_n (lv' := [(1, .int (0 : Int32)), (0, .ref (oa (gw Γ) 51))]) C dX4_reachProposals_1 rfl (by decide) rfl ?_
  refine g_iconst (v := (0 : Int32)) C dX4_reachProposals_2 (by decide) ?_
  refine g_istore_n (lv' := [(2, .int (0 : Int32)), (1, .int (0 : Int32)), (0, .ref (oa (gw Γ) 51))]) C dX4_reachProposals_3 rfl (by decide) rfl ?_
  obtain ⟨v1_13, m_13, hx, h⟩ := l2_some h
  refine g_sub [2, 1, 0] rfl ?_
  refine lt_X4_reachProposals_4 N Γ C N (0 : Int32) (0 : Int32) m _ hx ?_
  intro z1 m9 e9
  cases e9
  refine g_iload_n C dX4_reachProposals_114 0 rfl rfl ?_
  obtain ⟨g_14, h⟩ := gd_some h
  obtain rfl := Option.some.inj h
  exact hE 115 _ g_14 dX4_reachProposals_115
theorem c_X4_reachProposals (N : Nat) (l : Launch) (hst : l.stackTraces = false) (w : Om)  (m : Mem) (o : Int32 × Mem) (h : f_X4_reachProposals N  m = some o) : KI l yX4_reachProposals cX4_reachProposals 5 (some .boolean) 1 21 w [.ref (oa w 51)] m o.1 o.2 := KZ_of hst (by decide +kernel) RX4 rfl (Nat.le_of_ble_eq_true rfl) (fun Γ hw hl C hE => by
  subst hw; subst hl
  exact t_X4_reachProposals N Γ C  m o h hE)
def Ex_X4_reachReviewers_14 (Γ : Gc) (cs : Nat) (b : Int32 × Int32 × Mem) : Prop := (∀ (y1 : Int32) (y2 : Int32) (m' : Mem), b = (y1, y2, m') → G Γ 5 cs m' 119 [(0, .ref (oa (gw Γ) 51)), (1, .int y1), (2, .int y2)] [])
set_option maxRecDepth 100000 in
set_option maxHeartbeats 4000000 in
theorem t_X4_reachReviewers_14 (N : Nat) (Γ : Gc) (C : Cx Γ cX4_reachReviewers 5 RX4 (rmK 1 21 0)) (rc : Int32 → Int32 → Int32 → Mem → Option (Int32 × Int32 × Mem)) (b : Int32 × Int32 × Mem) (hE : Ex_X4_reachReviewers_14 Γ 0 b) (hrec : ∀ (v1 : Int32) (v2 : Int32) (v3 : Int32) (m : Mem) (b : Int32 × Int32 × Mem), rc v1 v2 v3 m = some b → Ex_X4_reachReviewers_14 Γ 0 b → G Γ 5 0 m 14 [(0, .ref (oa (gw Γ) 51)), (1, .int v1), (2, .int v2), (3, .int v3)] []) (v1 : Int32) (v2 : Int32) (v3 : Int32) (m : Mem) (h : T_X4_reachReviewers_14 N rc v1 v2 v3 m = some b) : G Γ 5 0 m 14 [(0, .ref (oa (gw Γ) 51)), (1, .int v1), (2, .int v2), (3, .int v3)] [] := by
  unfold T_X4_reachReviewers_14 at h
  refine g_iload_n C dX4_reachReviewers_14 3 rfl rfl ?_
  refine g_aload_n C dX4_reachReviewers_15 0 rfl rfl ?_
  refine g_getI (ci := 4) (j := 8) C dX4_reachReviewers_16 rfl (by decide) rfl inT_X4 (by decide) k_80 rfl rfl ?_
  refine g_icmp_ge (tgt := 119) C dX4_reachReviewers_19 (by decide) (fun c_11 => ?_) (fun c_11 => ?_)
  · replace h := it_t c_11 h
    obtain rfl := Option.some.inj h
    refine g_sub [0, 1, 2] rfl ?_
    exact hE _ _ _ rfl
  · replace h := it_f c_11 h
    refine g_aload_n C dX4_reachReviewers_22 0 rfl rfl ?_
    refine g_getT (b := 58) (ci := 4) (j := 6) C dX4_reachReviewers_23 rfl (by decide) rfl inT_X4 (by decide) k_91 rfl rfl rfl rfl ?_
    refine g_iload_n C dX4_reachReviewers_26 2 rfl rfl ?_
    obtain ⟨g_1, h⟩ := gd_some h
    refine g_iald C dX4_reachReviewers_27 (okA_of rfl rfl g_1) ?_
    refine g_ldc (v := (-1000000 : Int32)) C dX4_reachReviewers_28 k_85 ?_
    refine g_icmp_eq (tgt := 119) C dX4_reachReviewers_30 (by decide) (fun c_10 => ?_) (fun c_10 => ?_)
    · replace h := it_t c_10 h
      obtain rfl := Option.some.inj h
      refine g_sub [0, 1, 2] rfl ?_
      exact hE _ _ _ rfl
    · replace h := it_f c_10 h
      refine g_iload_n C dX4_reachReviewers_33 3 rfl rfl ?_
      refine g_iload_n C dX4_reachReviewers_34 2 rfl rfl ?_
      obtain ⟨r_2, m_2, hk_2, h⟩ := b2_some h
      refine g_nI (As := [.int v3, .int v2]) C dX4_reachReviewers_35 mf_X9_cell (List.mem_of_getElem? (i := 2) rfl) ⟨by decide, by decide⟩ rfl rfl (Nat.le_of_ble_eq_true rfl) (by decide) (c_X9_cell N (gl Γ) C.2.2.2.2 (gw Γ) v3 v2 m _ hk_2) ?_
      refine g_istore (lv' := [(4, .int r_2), (0, .ref (oa (gw Γ) 51)), (1, .int v1), (2, .int v2), (3, .int v3)]) C dX4_reachReviewers_38 (by decide) rfl ?_
      refine g_aload_n C dX4_reachReviewers_40 1 rfl rfl ?_
      refine g_getT (b := 52) (ci := 4) (j := 0) C dX4_reachReviewers_41 rfl (by decide) rfl inT_X4 (by decide) k_90 rfl rfl rfl rfl ?_
      refine g_iload C dX4_reachReviewers_44 0 rfl ?_
      obtain ⟨g_3, h⟩ := gd_some h
      refine g_iald C dX4_reachReviewers_46 (okA_of rfl rfl g_3) ?_
      refine g_iconst (v := (-1 : Int32)) C dX4_reachReviewers_47 (by decide) ?_
      refine g_icmp_eq (tgt := 113) C dX4_reachReviewers_48 (by decide) (fun c_9 => ?_) (fun c_9 => ?_)
      · replace h := it_t c_9 h
        refine g_iinc (q := 4) (v := v3 + (1 : Int32)) (lv' := [(3, .int (v3 + (1 : Int32))), (4, .int r_2), (0, .ref (oa (gw Γ) 51)), (1, .int v1), (2, .int v2)]) C dX4_reachReviewers_113 rfl rfl (by decide) rfl ?_
        refine g_goto (tgt := 14) C dX4_reachReviewers_116 (by decide) ?_
        refine g_sub [2, 3, 4, 0] rfl ?_
        exact hrec v1 v2 (v3 + (1 : Int32)) m_2 b h hE
      · replace h := it_f c_9 h
        refine g_aload_n C dX4_reachReviewers_51 1 rfl rfl ?_
        refine g_getT (b := 53) (ci := 4) (j := 1) C dX4_reachReviewers_52 rfl (by decide) rfl inT_X4 (by decide) k_89 rfl rfl rfl rfl ?_
        refine g_iload C dX4_reachReviewers_55 0 rfl ?_
        refine g_zald C dX4_reachReviewers_57 (okA_of rfl rfl g_3) ?_
        refine g_if_ne (tgt := 113) C dX4_reachReviewers_58 (by decide) (fun c_8 => ?_) (fun c_8 => ?_)
        · replace h := it_f c_8 h
          refine g_iinc (q := 4) (v := v3 + (1 : Int32)) (lv' := [(3, .int (v3 + (1 : Int32))), (4, .int r_2), (0, .ref (oa (gw Γ) 51)), (1, .int v1), (2, .int v2)]) C dX4_reachReviewers_113 rfl rfl (by decide) rfl ?_
          refine g_goto (tgt := 14) C dX4_reachReviewers_116 (by decide) ?_
          refine g_sub [2, 3, 4, 0] rfl ?_
          exact hrec v1 v2 (v3 + (1 : Int32)) m_2 b h hE
        · replace h := it_t c_8 h
          refine g_aload_n C dX4_reachReviewers_61 1 rfl rfl ?_
          refine g_getT (b := 58) (ci := 4) (j := 6) C dX4_reachReviewers_62 rfl (by decide) rfl inT_X4 (by decide) k_91 rfl rfl rfl rfl ?_
          refine g_iload_n C dX4_reachReviewers_65 3 rfl rfl ?_
          refine g_iald C dX4_reachReviewers_66 (okA_of rfl rfl g_1) ?_
          refine g_aload_n C dX4_reachReviewers_67 1 rfl rfl ?_
          refine g_getT (b := 52) (ci := 4) (j := 0) C dX4_reachReviewers_68 rfl (by decide) rfl inT_X4 (by decide) k_90 rfl rfl rfl rfl ?_
          refine g_iload C dX4_reachReviewers_71 0 rfl ?_
          refine g_iald C dX4_reachReviewers_73 (okA_of rfl rfl g_3) ?_
          refine g_iadd C dX4_reachReviewers_74 ?_
          refine g_aload_n C dX4_reachReviewers_75 1 rfl rfl ?_
          refine g_getT (b := 56) (ci := 4) (j := 4) C dX4_reachReviewers_76 rfl (by decide) rfl inT_X4 (by decide) k_83 rfl rfl rfl rfl ?_
          refine g_iload_n C dX4_reachReviewers_79 4 rfl rfl ?_
          obtain ⟨g_4, h⟩ := gd_some h
          refine g_iald C dX4_reachReviewers_80 (okA_of rfl rfl g_4) ?_
          refine g_icmp_le (tgt := 113) C dX4_reachReviewers_81 (by decide) (fun c_7 => ?_) (fun c_7 => ?_)
          · replace h := it_t c_7 h
            refine g_iinc (q := 4) (v := v3 + (1 : Int32)) (lv' := [(3, .int (v3 + (1 : Int32))), (4, .int r_2), (0, .ref (oa (gw Γ) 51)), (1, .int v1), (2, .int v2)]) C dX4_reachReviewers_113 rfl rfl (by decide) rfl ?_
            refine g_goto (tgt := 14) C dX4_reachReviewers_116 (by decide) ?_
            refine g_sub [2, 3, 4, 0] rfl ?_
            exact hrec v1 v2 (v3 + (1 : Int32)) m_2 b h hE
          · replace h := it_f c_7 h
            refine g_aload_n C dX4_reachReviewers_84 1 rfl rfl ?_
            refine g_getT (b := 56) (ci := 4) (j := 4) C dX4_reachReviewers_85 rfl (by decide) rfl inT_X4 (by decide) k_83 rfl rfl rfl rfl ?_
            refine g_iload_n C dX4_reachReviewers_88 4 rfl rfl ?_
            refine g_aload_n C dX4_reachReviewers_89 1 rfl rfl ?_
            refine g_getT (b := 58) (ci := 4) (j := 6) C dX4_reachReviewers_90 rfl (by decide) rfl inT_X4 (by decide) k_91 rfl rfl rfl rfl ?_
            refine g_iload_n C dX4_reachReviewers_93 3 rfl rfl ?_
            refine g_iald C dX4_reachReviewers_94 (okA_of rfl rfl g_1) ?_
            refine g_aload_n C dX4_reachReviewers_95 1 rfl rfl ?_
            refine g_getT (b := 52) (ci := 4) (j := 0) C dX4_reachReviewers_96 rfl (by decide) rfl inT_X4 (by decide) k_90 rfl rfl rfl rfl ?_
            refine g_iload C dX4_reachReviewers_99 0 rfl ?_
            refine g_iald C dX4_reachReviewers_101 (okA_of rfl rfl g_3) ?_
            refine g_iadd C dX4_reachReviewers_102 ?_
            obtain ⟨m_5, e_5, h⟩ := wr_some h
            refine g_iast C dX4_reachReviewers_103 (okA_of rfl rfl g_4) (G_m e_5 ?_)
            refine g_aload_n C dX4_reachReviewers_104 1 rfl rfl ?_
            refine g_getT (b := 57) (ci := 4) (j := 5) C dX4_reachReviewers_105 rfl (by decide) rfl inT_X4 (by decide) k_82 rfl rfl rfl rfl ?_
            refine g_iload_n C dX4_reachReviewers_108 4 rfl rfl ?_
            refine g_iload_n C dX4_reachReviewers_109 3 rfl rfl ?_
            obtain ⟨m_6, e_6, h⟩ := wr_some h
            refine g_iast C dX4_reachReviewers_110 (okA_of rfl rfl g_4) (G_m e_6 ?_)
            refine g_iconst (v := (1 : Int32)) C dX4_reachReviewers_111 (by decide) ?_
            refine g_istore_n (lv' := [(1, .int (1 : Int32)), (4, .int r_2), (0, .ref (oa (gw Γ) 51)), (2, .int v2), (3, .int v3)]) C dX4_reachReviewers_112 rfl (by decide) rfl ?_
            refine g_iinc (q := 4) (v := v3 + (1 : Int32)) (lv' := [(3, .int (v3 + (1 : Int32))), (1, .int (1 : Int32)), (4, .int r_2), (0, .ref (oa (gw Γ) 51)), (2, .int v2)]) C dX4_reachReviewers_113 rfl rfl (by decide) rfl ?_
            refine g_goto (tgt := 14) C dX4_reachReviewers_116 (by decide) ?_
            refine g_sub [3, 1, 4, 0] rfl ?_
            exact hrec (1 : Int32) v2 (v3 + (1 : Int32)) m_6 b h hE
theorem lt_X4_reachReviewers_14 (N : Nat) (Γ : Gc) (C : Cx Γ cX4_reachReviewers 5 RX4 (rmK 1 21 0)) : ∀ (n : Nat) (v1 : Int32) (v2 : Int32) (v3 : Int32) (m : Mem) (b : Int32 × Int32 × Mem), L_X4_reachReviewers_14 N n v1 v2 v3 m = some b → Ex_X4_reachReviewers_14 Γ 0 b → G Γ 5 0 m 14 [(0, .ref (oa (gw Γ) 51)), (1, .int v1), (2, .int v2), (3, .int v3)] [] := by
  intro n
  induction n with
  | zero =>
    intro v1 v2 v3 m b h
    have h9 : (none : Option (Int32 × Int32 × Mem)) = some b := h
    cases h9
  | succ n ih => intro v1 v2 v3 m b h hE; exact t_X4_reachReviewers_14 N Γ C (L_X4_reachReviewers_14 N n) b hE ih v1 v2 v3 m h
def Ex_X4_reachReviewers_4 (Γ : Gc) (cs : Nat) (b : Int32 × Mem) : Prop := (∀ (y1 : Int32) (m' : Mem), b = (y1, m') → G Γ 5 cs m' 125 [(1, .int y1)] [])
set_option maxRecDepth 100000 in
set_option maxHeartbeats 4000000 in
theorem t_X4_reachReviewers_4 (N : Nat) (Γ : Gc) (C : Cx Γ cX4_reachReviewers 5 RX4 (rmK 1 21 0)) (rc : Int32 → Int32 → Mem → Option (Int32 × Mem)) (b : Int32 × Mem) (hE : Ex_X4_reachReviewers_4 Γ 0 b) (hrec : ∀ (v1 : Int32) (v2 : Int32) (m : Mem) (b : Int32 × Mem), rc v1 v2 m = some b → Ex_X4_reachReviewers_4 Γ 0 b → G Γ 5 0 m 4 [(0, .ref (oa (gw Γ) 51)), (1, .int v1), (2, .int v2)] []) (v1 : Int32) (v2 : Int32) (m : Mem) (h : T_X4_reachReviewers_4 N rc v1 v2 m = some b) : G Γ 5 0 m 4 [(0, .ref (oa (gw Γ) 51)), (1, .int v1), (2, .int v2)] [] := by
  unfold T_X4_reachReviewers_4 at h
  refine g_iload_n C dX4_reachReviewers_4 2 rfl rfl ?_
  refine g_aload_n C dX4_reachReviewers_5 0 rfl rfl ?_
  refine g_getI (ci := 4) (j := 9) C dX4_reachReviewers_6 rfl (by decide) rfl inT_X4 (by decide) k_84 rfl rfl ?_
  refine g_icmp_ge (tgt := 125) C dX4_reachReviewers_9 (by decide) (fun c_13 => ?_) (fun c_13 => ?_)
  · replace h := it_t c_13 h
    obtain rfl := Option.some.inj h
    refine g_sub [1] rfl ?_
    exact hE _ _ rfl
  · replace h := it_f c_13 h
    refine g_iconst (v := (0 : Int32)) C dX4_reachReviewers_12 (by decide) ?_
    refine g_istore_n (lv' := [(3, .int (0 : Int32)), (0, .ref (oa (gw Γ) 51)), (1, .int v1), (2, .int v2)]) C dX4_reachReviewers_13 rfl (by decide) rfl ?_
    obtain ⟨v1_12, v2_12, m_12, hx, h⟩ := l3_some h
    refine g_sub [1, 2, 3, 0] rfl ?_
    refine lt_X4_reachReviewers_14 N Γ C N v1 v2 (0 : Int32) m _ hx ?_
    intro z1 z2 m9 e9
    cases e9
    refine g_iinc (q := 2) (v := v2_12 + (1 : Int32)) (lv' := [(2, .int (v2_12 + (1 : Int32))), (0, .ref (oa (gw Γ) 51)), (1, .int v1_12)]) C dX4_reachReviewers_119 rfl rfl (by decide) rfl ?_
    refine g_goto (tgt := 4) C dX4_reachReviewers_122 (by decide) ?_
    refine g_sub [1, 2, 0] rfl ?_
    exact hrec v1_12 (v2_12 + (1 : Int32)) m_12 b h hE
theorem lt_X4_reachReviewers_4 (N : Nat) (Γ : Gc) (C : Cx Γ cX4_reachReviewers 5 RX4 (rmK 1 21 0)) : ∀ (n : Nat) (v1 : Int32) (v2 : Int32) (m : Mem) (b : Int32 × Mem), L_X4_reachReviewers_4 N n v1 v2 m = some b → Ex_X4_reachReviewers_4 Γ 0 b → G Γ 5 0 m 4 [(0, .ref (oa (gw Γ) 51)), (1, .int v1), (2, .int v2)] [] := by
  intro n
  induction n with
  | zero =>
    intro v1 v2 m b h
    have h9 : (none : Option (Int32 × Mem)) = some b := h
    cases h9
  | succ n ih => intro v1 v2 m b h hE; exact t_X4_reachReviewers_4 N Γ C (L_X4_reachReviewers_4 N n) b hE ih v1 v2 m h
set_option maxRecDepth 100000 in
set_option maxHeartbeats 4000000 in
theorem t_X4_reachReviewers (N : Nat) (Γ : Gc) (C : Cx Γ cX4_reachReviewers 5 RX4 (rmK 1 21 0))  (m : Mem) (b : Int32 × Mem) (h : f_X4_reachReviewers N  m = some b) (hE : EZn Γ 5 cX4_reachReviewers b) : G Γ 5 0 m 0 [(0, .ref (oa (gw Γ) 51))] [] := by
  unfold f_X4_reachReviewers at h
  refine g_iconst (v := (0 : Int32)) C dX4_reachReviewers_0 (by decide) ?_
  refine g_istore_n (lv' := [(1, .int (0 : Int32)), (0, .ref (oa (gw Γ) 51))]) C dX4_reachReviewers_1 rfl (by decide) rfl ?_
  refine g_iconst (v := (0 : Int32)) C dX4_reachReviewers_2 (by decide) ?_
  refine g_istore_n (lv' := [(2, .int (0 : Int32)), (1, .int (0 : Int32)), (0, .ref (oa (gw Γ) 51))]) C dX4_reachReviewers_3 rfl (by decide) rfl ?_
  obtain ⟨v1_14, m_14, hx, h⟩ := l2_some h
  refine g_sub [2, 1, 0] rfl ?_
  refine lt_X4_reachReviewers_4 N Γ C N (0 : Int32) (0 : Int32) m _ hx ?_
  intro z1 m9 e9
  cases e9
  refine g_iload_n C dX4_reachReviewers_125 0 rfl rfl ?_
  obtain ⟨g_15, h⟩ := gd_some h
  obtain rfl := Option.some.inj h
  exact hE 126 _ g_15 dX4_reachReviewers_126
theorem c_X4_reachReviewers (N : Nat) (l : Launch) (hst : l.stackTraces = false) (w : Om)  (m : Mem) (o : Int32 × Mem) (h : f_X4_reachReviewers N  m = some o) : KI l yX4_reachReviewers cX4_reachReviewers 5 (some .boolean) 1 21 w [.ref (oa w 51)] m o.1 o.2 := KZ_of hst (by decide +kernel) RX4 rfl (Nat.le_of_ble_eq_true rfl) (fun Γ hw hl C hE => by
  subst hw; subst hl
  exact t_X4_reachReviewers N Γ C  m o h hE)
def Ex_X4_findPaths_27 (Γ : Gc) (cs : Nat) (b : Mem) : Prop := (∀  (m' : Mem), b = m' → G Γ 2 cs m' 62 [(0, .ref (oa (gw Γ) 51))] [])
set_option maxRecDepth 100000 in
set_option maxHeartbeats 4000000 in
theorem t_X4_findPaths_55 (N : Nat) (Γ : Gc) (C : Cx Γ cX4_findPaths 2 RX4 (rmK 2 45 0)) (rc : Int32 → Mem → Option (Mem)) (b : Mem) (hE : Ex_X4_findPaths_27 Γ 0 b) (hrec : ∀ (v1 : Int32) (m : Mem) (b : Mem), rc v1 m = some b → Ex_X4_findPaths_27 Γ 0 b → G Γ 2 0 m 27 [(0, .ref (oa (gw Γ) 51)), (1, .int v1)] []) (v1 : Int32) (s0 : Int32) (s1 : Int32) (m : Mem) (h : B_X4_findPaths_55 N rc v1 s0 s1 m = some b) : G Γ 2 0 m 55 [(0, .ref (oa (gw Γ) 51)), (1, .int v1)] [.int s0, .int s1, .ref (oa (gw Γ) 58)] := by
  unfold B_X4_findPaths_55 at h
  obtain ⟨g_5, h⟩ := gd_some h
  obtain ⟨m_6, e_6, h⟩ := wr_some h
  refine g_iast C dX4_findPaths_55 (okA_of rfl rfl g_5) (G_m e_6 ?_)
  refine g_iinc (q := 1) (v := v1 + (1 : Int32)) (lv' := [(1, .int (v1 + (1 : Int32))), (0, .ref (oa (gw Γ) 51))]) C dX4_findPaths_56 rfl rfl (by decide) rfl ?_
  refine g_goto (tgt := 27) C dX4_findPaths_59 (by decide) ?_
  refine g_sub [1, 0] rfl ?_
  exact hrec (v1 + (1 : Int32)) m_6 b h hE
set_option maxRecDepth 100000 in
set_option maxHeartbeats 4000000 in
theorem t_X4_findPaths_27 (N : Nat) (Γ : Gc) (C : Cx Γ cX4_findPaths 2 RX4 (rmK 2 45 0)) (rc : Int32 → Mem → Option (Mem)) (b : Mem) (hE : Ex_X4_findPaths_27 Γ 0 b) (hrec : ∀ (v1 : Int32) (m : Mem) (b : Mem), rc v1 m = some b → Ex_X4_findPaths_27 Γ 0 b → G Γ 2 0 m 27 [(0, .ref (oa (gw Γ) 51)), (1, .int v1)] []) (v1 : Int32) (m : Mem) (h : T_X4_findPaths_27 N rc v1 m = some b) : G Γ 2 0 m 27 [(0, .ref (oa (gw Γ) 51)), (1, .int v1)] [] := by
  unfold T_X4_findPaths_27 at h
  refine g_iload_n C dX4_findPaths_27 1 rfl rfl ?_
  refine g_aload_n C dX4_findPaths_28 0 rfl rfl ?_
  refine g_getI (ci := 4) (j := 9) C dX4_findPaths_29 rfl (by decide) rfl inT_X4 (by decide) k_84 rfl rfl ?_
  refine g_icmp_ge (tgt := 62) C dX4_findPaths_32 (by decide) (fun c_8 => ?_) (fun c_8 => ?_)
  · replace h := it_t c_8 h
    obtain rfl := Option.some.inj h
    refine g_sub [0] rfl ?_
    exact hE _ rfl
  · replace h := it_f c_8 h
    refine g_aload_n C dX4_findPaths_35 0 rfl rfl ?_
    refine g_getT (b := 58) (ci := 4) (j := 6) C dX4_findPaths_36 rfl (by decide) rfl inT_X4 (by decide) k_91 rfl rfl rfl rfl ?_
    refine g_iload_n C dX4_findPaths_39 1 rfl rfl ?_
    refine g_aload_n C dX4_findPaths_40 0 rfl rfl ?_
    refine g_getT (b := 55) (ci := 4) (j := 3) C dX4_findPaths_41 rfl (by decide) rfl inT_X4 (by decide) k_94 rfl rfl rfl rfl ?_
    refine g_iload_n C dX4_findPaths_44 1 rfl rfl ?_
    obtain ⟨g_4, h⟩ := gd_some h
    refine g_iald C dX4_findPaths_45 (okA_of rfl rfl g_4) ?_
    refine g_if_le (tgt := 53) C dX4_findPaths_46 (by decide) (fun c_7 => ?_) (fun c_7 => ?_)
    · replace h := it_t c_7 h
      refine g_ldc (v := (-1000000 : Int32)) C dX4_findPaths_53 k_85 ?_
      refine g_sub [0, 1] rfl ?_
      exact t_X4_findPaths_55 N Γ C rc b hE hrec v1 (-1000000 : Int32) v1 m h
    · replace h := it_f c_7 h
      refine g_iconst (v := (0 : Int32)) C dX4_findPaths_49 (by decide) ?_
      refine g_goto (tgt := 55) C dX4_findPaths_50 (by decide) ?_
      refine g_sub [0, 1] rfl ?_
      exact t_X4_findPaths_55 N Γ C rc b hE hrec v1 (0 : Int32) v1 m h
theorem lt_X4_findPaths_27 (N : Nat) (Γ : Gc) (C : Cx Γ cX4_findPaths 2 RX4 (rmK 2 45 0)) : ∀ (n : Nat) (v1 : Int32) (m : Mem) (b : Mem), L_X4_findPaths_27 N n v1 m = some b → Ex_X4_findPaths_27 Γ 0 b → G Γ 2 0 m 27 [(0, .ref (oa (gw Γ) 51)), (1, .int v1)] [] := by
  intro n
  induction n with
  | zero =>
    intro v1 m b h
    have h9 : (none : Option (Mem)) = some b := h
    cases h9
  | succ n ih => intro v1 m b h hE; exact t_X4_findPaths_27 N Γ C (L_X4_findPaths_27 N n) b hE ih v1 m h
def Ex_X4_findPaths_64 (Γ : Gc) (cs : Nat) (b : (Mem) ⊕ (Mem)) : Prop := (∀  (m' : Mem), b = .inl (m') → G Γ 2 cs m' 91 [] []) ∧ (∀  (m' : Mem), b = .inr (m') → G Γ 2 cs m' 84 [] [])
set_option maxRecDepth 100000 in
set_option maxHeartbeats 4000000 in
theorem t_X4_findPaths_64 (N : Nat) (Γ : Gc) (C : Cx Γ cX4_findPaths 2 RX4 (rmK 2 45 0)) (rc : Int32 → Mem → Option ((Mem) ⊕ (Mem))) (b : (Mem) ⊕ (Mem)) (hE : Ex_X4_findPaths_64 Γ 0 b) (hrec : ∀ (v1 : Int32) (m : Mem) (b : (Mem) ⊕ (Mem)), rc v1 m = some b → Ex_X4_findPaths_64 Γ 0 b → G Γ 2 0 m 64 [(0, .ref (oa (gw Γ) 51)), (1, .int v1)] []) (v1 : Int32) (m : Mem) (h : T_X4_findPaths_64 N rc v1 m = some b) : G Γ 2 0 m 64 [(0, .ref (oa (gw Γ) 51)), (1, .int v1)] [] := by
  unfold T_X4_findPaths_64 at h
  refine g_iload_n C dX4_findPaths_64 1 rfl rfl ?_
  refine g_bipush (v := (12 : Int32)) C dX4_findPaths_65 (by decide) ?_
  refine g_icmp_gt (tgt := 91) C dX4_findPaths_67 (by decide) (fun c_14 => ?_) (fun c_14 => ?_)
  · replace h := it_t c_14 h
    obtain rfl := Option.some.inj h
    refine g_sub [] rfl ?_
    exact hE.1 _ rfl
  · replace h := it_f c_14 h
    refine g_aload_n C dX4_findPaths_70 0 rfl rfl ?_
    obtain ⟨r_10, m_10, hk_10, h⟩ := b2_some h
    refine g_vI (As := []) (a := 51) (ci := 4) C dX4_findPaths_71 mf_X4_reachReviewers k_95 rfl (by decide) ⟨by decide, by decide⟩ rfl rfl (Nat.le_of_ble_eq_true rfl) (by decide) rfl (c_X4_reachReviewers N (gl Γ) C.2.2.2.2 (gw Γ)  m _ hk_10) ?_
    refine g_if_eq (tgt := 84) C dX4_findPaths_74 (by decide) (fun c_13 => ?_) (fun c_13 => ?_)
    · replace h := it_t c_13 h
      obtain rfl := Option.some.inj h
      refine g_sub [] rfl ?_
      exact hE.2 _ rfl
    · replace h := it_f c_13 h
      refine g_aload_n C dX4_findPaths_77 0 rfl rfl ?_
      obtain ⟨r_11, m_11, hk_11, h⟩ := b2_some h
      refine g_vI (As := []) (a := 51) (ci := 4) C dX4_findPaths_78 mf_X4_reachProposals k_100 rfl (by decide) ⟨by decide, by decide⟩ rfl rfl (Nat.le_of_ble_eq_true rfl) (by decide) rfl (c_X4_reachProposals N (gl Γ) C.2.2.2.2 (gw Γ)  m_10 _ hk_11) ?_
      refine g_if_ne (tgt := 85) C dX4_findPaths_81 (by decide) (fun c_12 => ?_) (fun c_12 => ?_)
      · replace h := it_f c_12 h
        refine g_iinc (q := 1) (v := v1 + (1 : Int32)) (lv' := [(1, .int (v1 + (1 : Int32))), (0, .ref (oa (gw Γ) 51))]) C dX4_findPaths_85 rfl rfl (by decide) rfl ?_
        refine g_goto (tgt := 64) C dX4_findPaths_88 (by decide) ?_
        refine g_sub [1, 0] rfl ?_
        exact hrec (v1 + (1 : Int32)) m_11 b h hE
      · replace h := it_t c_12 h
        obtain rfl := Option.some.inj h
        refine g_sub [] rfl ?_
        exact hE.2 _ rfl
theorem lt_X4_findPaths_64 (N : Nat) (Γ : Gc) (C : Cx Γ cX4_findPaths 2 RX4 (rmK 2 45 0)) : ∀ (n : Nat) (v1 : Int32) (m : Mem) (b : (Mem) ⊕ (Mem)), L_X4_findPaths_64 N n v1 m = some b → Ex_X4_findPaths_64 Γ 0 b → G Γ 2 0 m 64 [(0, .ref (oa (gw Γ) 51)), (1, .int v1)] [] := by
  intro n
  induction n with
  | zero =>
    intro v1 m b h
    have h9 : (none : Option ((Mem) ⊕ (Mem))) = some b := h
    cases h9
  | succ n ih => intro v1 m b h hE; exact t_X4_findPaths_64 N Γ C (L_X4_findPaths_64 N n) b hE ih v1 m h
set_option maxRecDepth 100000 in
set_option maxHeartbeats 4000000 in
theorem t_X4_findPaths (N : Nat) (Γ : Gc) (C : Cx Γ cX4_findPaths 2 RX4 (rmK 2 45 0))  (m : Mem) (b : Mem) (h : f_X4_findPaths N  m = some b) (hE : EVn Γ 2 cX4_findPaths b) : G Γ 2 0 m 0 [(0, .ref (oa (gw Γ) 51))] [] := by
  unfold f_X4_findPaths at h
  refine g_aload_n C dX4_findPaths_0 0 rfl rfl ?_
  refine g_getT (b := 56) (ci := 4) (j := 4) C dX4_findPaths_1 rfl (by decide) rfl inT_X4 (by decide) k_83 rfl rfl rfl rfl ?_
  refine g_ldc (v := (-1000000 : Int32)) C dX4_findPaths_4 k_85 ?_
  obtain ⟨m_1, hk_1, h⟩ := b1_some h
  refine g_sV (As := [.ref (oa (gw Γ) 56), .int (-1000000 : Int32)]) C dX4_findPaths_6 mf_J7_fill_53178 k_93 ⟨by decide, by decide⟩ rfl rfl (Nat.le_of_ble_eq_true rfl) (by decide) (c_J7_fill_53178 N (gl Γ) C.2.2.2.2 (gw Γ) 56 (-1000000 : Int32) m _ hk_1) ?_
  refine g_aload_n C dX4_findPaths_9 0 rfl rfl ?_
  refine g_getT (b := 57) (ci := 4) (j := 5) C dX4_findPaths_10 rfl (by decide) rfl inT_X4 (by decide) k_82 rfl rfl rfl rfl ?_
  refine g_iconst (v := (-1 : Int32)) C dX4_findPaths_13 (by decide) ?_
  obtain ⟨m_2, hk_2, h⟩ := b1_some h
  refine g_sV (As := [.ref (oa (gw Γ) 57), .int (-1 : Int32)]) C dX4_findPaths_14 mf_J7_fill_53178 k_93 ⟨by decide, by decide⟩ rfl rfl (Nat.le_of_ble_eq_true rfl) (by decide) (c_J7_fill_53178 N (gl Γ) C.2.2.2.2 (gw Γ) 57 (-1 : Int32) m_1 _ hk_2) ?_
  refine g_aload_n C dX4_findPaths_17 0 rfl rfl ?_
  refine g_getT (b := 59) (ci := 4) (j := 7) C dX4_findPaths_18 rfl (by decide) rfl inT_X4 (by decide) k_92 rfl rfl rfl rfl ?_
  refine g_iconst (v := (-1 : Int32)) C dX4_findPaths_21 (by decide) ?_
  obtain ⟨m_3, hk_3, h⟩ := b1_some h
  refine g_sV (As := [.ref (oa (gw Γ) 59), .int (-1 : Int32)]) C dX4_findPaths_22 mf_J7_fill_53178 k_93 ⟨by decide, by decide⟩ rfl rfl (Nat.le_of_ble_eq_true rfl) (by decide) (c_J7_fill_53178 N (gl Γ) C.2.2.2.2 (gw Γ) 59 (-1 : Int32) m_2 _ hk_3) ?_
  refine g_iconst (v := (0 : Int32)) C dX4_findPaths_25 (by decide) ?_
  refine g_istore_n (lv' := [(1, .int (0 : Int32)), (0, .ref (oa (gw Γ) 51))]) C dX4_findPaths_26 rfl (by decide) rfl ?_
  obtain ⟨m_9, hx, h⟩ := l1_some h
  refine g_sub [1, 0] rfl ?_
  refine lt_X4_findPaths_27 N Γ C N (0 : Int32) m_3 _ hx ?_
  intro  m9 e9
  cases e9
  refine g_iconst (v := (0 : Int32)) C dX4_findPaths_62 (by decide) ?_
  refine g_istore_n (lv' := [(1, .int (0 : Int32)), (0, .ref (oa (gw Γ) 51))]) C dX4_findPaths_63 rfl (by decide) rfl ?_
  obtain ⟨x9, hx, h⟩ := ob_some h
  refine g_sub [1, 0] rfl ?_
  refine lt_X4_findPaths_64 N Γ C N (0 : Int32) m_9 _ hx ?_
  refine ⟨?_, ?_⟩
  · intro  m_15 e9
    subst e9
    replace h : (some (m_15)) = some b := h
    obtain rfl := Option.some.inj h
    exact hE 91 _ dX4_findPaths_91
  · intro  m_15 e9
    subst e9
    replace h : (some (m_15)) = some b := h
    obtain rfl := Option.some.inj h
    exact hE 84 _ dX4_findPaths_84
theorem c_X4_findPaths (N : Nat) (l : Launch) (hst : l.stackTraces = false) (w : Om)  (m : Mem) (o : Mem) (h : f_X4_findPaths N  m = some o) : KV l yX4_findPaths cX4_findPaths 2 none 2 45 w [.ref (oa w 51)] m o := KV_of hst (by decide +kernel) RX4 rfl (Nat.le_of_ble_eq_true rfl) (fun Γ hw hl C hE => by
  subst hw; subst hl
  exact t_X4_findPaths N Γ C  m o h hE)
def Ex_X4_follow_14 (Γ : Gc) (cs : Nat) (b : (Mem) ⊕ (Mem)) : Prop := (∀  (m' : Mem), b = .inl (m') → G Γ 5 cs m' 97 [] []) ∧ (∀  (m' : Mem), b = .inr (m') → G Γ 5 cs m' 39 [] [])
set_option maxRecDepth 100000 in
set_option maxHeartbeats 4000000 in
theorem t_X4_follow_14 (N : Nat) (Γ : Gc) (C : Cx Γ cX4_follow 5 RX4 (rmK 1 21 0)) (rc : Int32 → Int32 → Mem → Option ((Mem) ⊕ (Mem))) (b : (Mem) ⊕ (Mem)) (hE : Ex_X4_follow_14 Γ 0 b) (hrec : ∀ (v2 : Int32) (v3 : Int32) (m : Mem) (b : (Mem) ⊕ (Mem)), rc v2 v3 m = some b → Ex_X4_follow_14 Γ 0 b → G Γ 5 0 m 14 [(0, .ref (oa (gw Γ) 51)), (2, .int v2), (3, .int v3)] []) (v2 : Int32) (v3 : Int32) (m : Mem) (h : T_X4_follow_14 N rc v2 v3 m = some b) : G Γ 5 0 m 14 [(0, .ref (oa (gw Γ) 51)), (2, .int v2), (3, .int v3)] [] := by
  unfold T_X4_follow_14 at h
  refine g_iload_n C dX4_follow_14 2 rfl rfl ?_
  refine g_bipush (v := (12 : Int32)) C dX4_follow_15 (by decide) ?_
  refine g_icmp_ge (tgt := 97) C dX4_follow_17 (by decide) (fun c_15 => ?_) (fun c_15 => ?_)
  · replace h := it_t c_15 h
    obtain rfl := Option.some.inj h
    refine g_sub [] rfl ?_
    exact hE.1 _ rfl
  · replace h := it_f c_15 h
    refine g_iload_n C dX4_follow_20 1 rfl rfl ?_
    refine g_iconst (v := (-1 : Int32)) C dX4_follow_21 (by decide) ?_
    refine g_icmp_eq (tgt := 97) C dX4_follow_22 (by decide) (fun c_14 => ?_) (fun c_14 => ?_)
    · replace h := it_t c_14 h
      obtain rfl := Option.some.inj h
      refine g_sub [] rfl ?_
      exact hE.1 _ rfl
    · replace h := it_f c_14 h
      refine g_aload_n C dX4_follow_25 0 rfl rfl ?_
      refine g_getT (b := 57) (ci := 4) (j := 5) C dX4_follow_26 rfl (by decide) rfl inT_X4 (by decide) k_82 rfl rfl rfl rfl ?_
      refine g_iload_n C dX4_follow_29 1 rfl rfl ?_
      obtain ⟨g_3, h⟩ := gd_some h
      refine g_iald C dX4_follow_30 (okA_of rfl rfl g_3) ?_
      refine g_istore (lv' := [(4, .int (gI m 57 v2.toNatClampNeg)), (0, .ref (oa (gw Γ) 51)), (2, .int v2), (3, .int v3)]) C dX4_follow_31 (by decide) rfl ?_
      refine g_iload C dX4_follow_33 0 rfl ?_
      refine g_iconst (v := (-1 : Int32)) C dX4_follow_35 (by decide) ?_
      refine g_icmp_ne (tgt := 40) C dX4_follow_36 (by decide) (fun c_13 => ?_) (fun c_13 => ?_)
      · replace h := it_f c_13 h
        refine g_aload_n C dX4_follow_40 1 rfl rfl ?_
        refine g_getT (b := 53) (ci := 4) (j := 1) C dX4_follow_41 rfl (by decide) rfl inT_X4 (by decide) k_89 rfl rfl rfl rfl ?_
        refine g_iload_n C dX4_follow_44 2 rfl rfl ?_
        refine g_iload C dX4_follow_45 0 rfl ?_
        obtain ⟨r_4, m_4, hk_4, h⟩ := b2_some h
        refine g_nI (As := [.int v2, .int (gI m 57 v2.toNatClampNeg)]) C dX4_follow_47 mf_X9_cell (List.mem_of_getElem? (i := 2) rfl) ⟨by decide, by decide⟩ rfl rfl (Nat.le_of_ble_eq_true rfl) (by decide) (c_X9_cell N (gl Γ) C.2.2.2.2 (gw Γ) v2 (gI m 57 v2.toNatClampNeg) m _ hk_4) ?_
        refine g_iconst (v := (1 : Int32)) C dX4_follow_50 (by decide) ?_
        obtain ⟨g_5, h⟩ := gd_some h
        obtain ⟨m_6, e_6, h⟩ := wr_some h
        refine g_zast C dX4_follow_51 (okA_of rfl rfl g_5) (G_m e_6 ?_)
        refine g_aload_n C dX4_follow_52 1 rfl rfl ?_
        refine g_getT (b := 59) (ci := 4) (j := 7) C dX4_follow_53 rfl (by decide) rfl inT_X4 (by decide) k_92 rfl rfl rfl rfl ?_
        refine g_iload C dX4_follow_56 0 rfl ?_
        obtain ⟨g_7, h⟩ := gd_some h
        refine g_iald C dX4_follow_58 (okA_of rfl rfl g_7) ?_
        refine g_istore_n (lv' := [(2, .int (gI m_6 59 (gI m 57 v2.toNatClampNeg).toNatClampNeg)), (4, .int (gI m 57 v2.toNatClampNeg)), (0, .ref (oa (gw Γ) 51)), (3, .int v3)]) C dX4_follow_59 rfl (by decide) rfl ?_
        refine g_iload_n C dX4_follow_60 0 rfl rfl ?_
        refine g_iconst (v := (-1 : Int32)) C dX4_follow_61 (by decide) ?_
        refine g_icmp_ne (tgt := 79) C dX4_follow_62 (by decide) (fun c_12 => ?_) (fun c_12 => ?_)
        · replace h := it_f c_12 h
          refine g_aload_n C dX4_follow_79 2 rfl rfl ?_
          refine g_getT (b := 53) (ci := 4) (j := 1) C dX4_follow_80 rfl (by decide) rfl inT_X4 (by decide) k_89 rfl rfl rfl rfl ?_
          refine g_iload_n C dX4_follow_83 0 rfl rfl ?_
          refine g_iload C dX4_follow_84 1 rfl ?_
          obtain ⟨r_8, m_8, hk_8, h⟩ := b2_some h
          refine g_nI (As := [.int (gI m_6 59 (gI m 57 v2.toNatClampNeg).toNatClampNeg), .int (gI m 57 v2.toNatClampNeg)]) C dX4_follow_86 mf_X9_cell (List.mem_of_getElem? (i := 2) rfl) ⟨by decide, by decide⟩ rfl rfl (Nat.le_of_ble_eq_true rfl) (by decide) (c_X9_cell N (gl Γ) C.2.2.2.2 (gw Γ) (gI m_6 59 (gI m 57 v2.toNatClampNeg).toNatClampNeg) (gI m 57 v2.toNatClampNeg) m_6 _ hk_8) ?_
          refine g_iconst (v := (0 : Int32)) C dX4_follow_89 (by decide) ?_
          obtain ⟨g_9, h⟩ := gd_some h
          obtain ⟨m_10, e_10, h⟩ := wr_some h
          refine g_zast C dX4_follow_90 (okA_of rfl rfl g_9) (G_m e_10 ?_)
          refine g_iinc (q := 3) (v := v3 + (1 : Int32)) (lv' := [(3, .int (v3 + (1 : Int32))), (2, .int (gI m_6 59 (gI m 57 v2.toNatClampNeg).toNatClampNeg)), (4, .int (gI m 57 v2.toNatClampNeg)), (0, .ref (oa (gw Γ) 51))]) C dX4_follow_91 rfl rfl (by decide) rfl ?_
          refine g_goto (tgt := 14) C dX4_follow_94 (by decide) ?_
          refine g_sub [3, 1, 0] rfl ?_
          exact hrec (gI m_6 59 (gI m 57 v2.toNatClampNeg).toNatClampNeg) (v3 + (1 : Int32)) m_10 b h hE
        · replace h := it_t c_12 h
          refine g_aload_n C dX4_follow_65 2 rfl rfl ?_
          refine g_getT (b := 55) (ci := 4) (j := 3) C dX4_follow_66 rfl (by decide) rfl inT_X4 (by decide) k_94 rfl rfl rfl rfl ?_
          refine g_iload C dX4_follow_69 1 rfl ?_
          refine g_dup2 C dX4_follow_71 rfl rfl ?_
          refine g_iald C dX4_follow_72 (okA_of rfl rfl g_7) ?_
          refine g_iconst (v := (1 : Int32)) C dX4_follow_73 (by decide) ?_
          refine g_isub C dX4_follow_74 ?_
          obtain ⟨m_11, e_11, h⟩ := wr_some h
          refine g_iast C dX4_follow_75 (okA_of rfl rfl g_7) (G_m e_11 ?_)
          refine g_goto (tgt := 91) C dX4_follow_76 (by decide) ?_
          refine g_iinc (q := 3) (v := v3 + (1 : Int32)) (lv' := [(3, .int (v3 + (1 : Int32))), (2, .int (gI m_6 59 (gI m 57 v2.toNatClampNeg).toNatClampNeg)), (4, .int (gI m 57 v2.toNatClampNeg)), (0, .ref (oa (gw Γ) 51))]) C dX4_follow_91 rfl rfl (by decide) rfl ?_
          refine g_goto (tgt := 14) C dX4_follow_94 (by decide) ?_
          refine g_sub [3, 1, 0] rfl ?_
          exact hrec (gI m_6 59 (gI m 57 v2.toNatClampNeg).toNatClampNeg) (v3 + (1 : Int32)) m_11 b h hE
      · replace h := it_t c_13 h
        obtain rfl := Option.some.inj h
        refine g_sub [] rfl ?_
        exact hE.2 _ rfl
theorem lt_X4_follow_14 (N : Nat) (Γ : Gc) (C : Cx Γ cX4_follow 5 RX4 (rmK 1 21 0)) : ∀ (n : Nat) (v2 : Int32) (v3 : Int32) (m : Mem) (b : (Mem) ⊕ (Mem)), L_X4_follow_14 N n v2 v3 m = some b → Ex_X4_follow_14 Γ 0 b → G Γ 5 0 m 14 [(0, .ref (oa (gw Γ) 51)), (2, .int v2), (3, .int v3)] [] := by
  intro n
  induction n with
  | zero =>
    intro v2 v3 m b h
    have h9 : (none : Option ((Mem) ⊕ (Mem))) = some b := h
    cases h9
  | succ n ih => intro v2 v3 m b h hE; exact t_X4_follow_14 N Γ C (L_X4_follow_14 N n) b hE ih v2 v3 m h
set_option maxRecDepth 100000 in
set_option maxHeartbeats 4000000 in
theorem t_X4_follow (N : Nat) (Γ : Gc) (C : Cx Γ cX4_follow 5 RX4 (rmK 1 21 0)) (v1 : Int32) (m : Mem) (b : Mem) (h : f_X4_follow N v1 m = some b) (hE : EVn Γ 5 cX4_follow b) : G Γ 5 0 m 0 [(0, .ref (oa (gw Γ) 51)), (1, .int v1)] [] := by
  unfold f_X4_follow at h
  refine g_aload_n C dX4_follow_0 0 rfl rfl ?_
  refine g_getT (b := 54) (ci := 4) (j := 2) C dX4_follow_1 rfl (by decide) rfl inT_X4 (by decide) k_81 rfl rfl rfl rfl ?_
  refine g_iload_n C dX4_follow_4 1 rfl rfl ?_
  refine g_dup2 C dX4_follow_5 rfl rfl ?_
  obtain ⟨g_1, h⟩ := gd_some h
  refine g_iald C dX4_follow_6 (okA_of rfl rfl g_1) ?_
  refine g_iconst (v := (1 : Int32)) C dX4_follow_7 (by decide) ?_
  refine g_isub C dX4_follow_8 ?_
  obtain ⟨m_2, e_2, h⟩ := wr_some h
  refine g_iast C dX4_follow_9 (okA_of rfl rfl g_1) (G_m e_2 ?_)
  refine g_iload_n C dX4_follow_10 1 rfl rfl ?_
  refine g_istore_n (lv' := [(2, .int v1), (0, .ref (oa (gw Γ) 51)), (1, .int v1)]) C dX4_follow_11 rfl (by decide) rfl ?_
  refine g_iconst (v := (0 : Int32)) C dX4_follow_12 (by decide) ?_
  refine g_istore_n (lv' := [(3, .int (0 : Int32)), (2, .int v1), (0, .ref (oa (gw Γ) 51)), (1, .int v1)]) C dX4_follow_13 rfl (by decide) rfl ?_
  obtain ⟨x9, hx, h⟩ := ob_some h
  refine g_sub [2, 1, 0] rfl ?_
  refine lt_X4_follow_14 N Γ C N v1 (0 : Int32) m_2 _ hx ?_
  refine ⟨?_, ?_⟩
  · intro  m_16 e9
    subst e9
    replace h : (some (m_16)) = some b := h
    obtain rfl := Option.some.inj h
    exact hE 97 _ dX4_follow_97
  · intro  m_16 e9
    subst e9
    replace h : (some (m_16)) = some b := h
    obtain rfl := Option.some.inj h
    exact hE 39 _ dX4_follow_39
theorem c_X4_follow (N : Nat) (l : Launch) (hst : l.stackTraces = false) (w : Om) (v1 : Int32) (m : Mem) (o : Mem) (h : f_X4_follow N v1 m = some o) : KV l yX4_follow cX4_follow 5 none 1 21 w [.ref (oa w 51), .int v1] m o := KV_of hst (by decide +kernel) RX4 rfl (Nat.le_of_ble_eq_true rfl) (fun Γ hw hl C hE => by
  subst hw; subst hl
  exact t_X4_follow N Γ C v1 m o h hE)
set_option maxRecDepth 100000 in
set_option maxHeartbeats 4000000 in
theorem t_X6_matchOf (N : Nat) (Γ : Gc) (C : Cx Γ cX6_matchOf 5 RX6 (rmK 0 0 0)) (v0 : Nat) (v1 : Int32) (v2 : Int32) (m : Mem) (b : Int32 × Mem) (h : f_X6_matchOf N v0 v1 v2 m = some b) (hE : EIn Γ 5 cX6_matchOf b) : G Γ 5 0 m 0 [(0, .ref (oa (gw Γ) v0)), (1, .int v1), (2, .int v2)] [] := by
  unfold f_X6_matchOf at h
  refine g_iconst (v := (1 : Int32)) C dX6_matchOf_0 (by decide) ?_
  refine g_aload_n C dX6_matchOf_1 0 rfl rfl ?_
  obtain ⟨g_1, h⟩ := gd_some h
  refine g_getT (b := rt v0 11) (ci := 6) (j := 11) C dX6_matchOf_2 rfl (by decide) rfl inT_X6 (by decide) k_104 rfl rfl rfl g_1 ?_
  refine g_iload_n C dX6_matchOf_5 2 rfl rfl ?_
  obtain ⟨g_2, h⟩ := gd_some h
  refine g_iald C dX6_matchOf_6 g_2 ?_
  refine g_ishl C dX6_matchOf_7 ?_
  refine g_istore_n (lv' := [(3, .int ((1 : Int32) <<< ((gI m (rt v0 11) v2.toNatClampNeg) &&& 31))), (0, .ref (oa (gw Γ) v0)), (1, .int v1), (2, .int v2)]) C dX6_matchOf_8 rfl (by decide) rfl ?_
  refine g_iload_n C dX6_matchOf_9 0 rfl rfl ?_
  refine g_iconst (v := (1 : Int32)) C dX6_matchOf_10 (by decide) ?_
  refine g_ishl C dX6_matchOf_11 ?_
  refine g_iload_n C dX6_matchOf_12 0 rfl rfl ?_
  refine g_iconst (v := (1 : Int32)) C dX6_matchOf_13 (by decide) ?_
  refine g_ishr C dX6_matchOf_14 ?_
  refine g_ior C dX6_matchOf_15 ?_
  refine g_istore (lv' := [(4, .int ((((1 : Int32) <<< ((gI m (rt v0 11) v2.toNatClampNeg) &&& 31)) <<< ((1 : Int32) &&& 31)) ||| (((1 : Int32) <<< ((gI m (rt v0 11) v2.toNatClampNeg) &&& 31)) >>> ((1 : Int32) &&& 31)))), (3, .int ((1 : Int32) <<< ((gI m (rt v0 11) v2.toNatClampNeg) &&& 31))), (0, .ref (oa (gw Γ) v0)), (1, .int v1), (2, .int v2)]) C dX6_matchOf_16 (by decide) rfl ?_
  refine g_aload_n C dX6_matchOf_18 2 rfl rfl ?_
  refine g_getT (b := rt v0 7) (ci := 6) (j := 7) C dX6_matchOf_19 rfl (by decide) rfl inT_X6 (by decide) k_105 rfl rfl rfl g_1 ?_
  refine g_iload_n C dX6_matchOf_22 3 rfl rfl ?_
  obtain ⟨g_3, h⟩ := gd_some h
  refine g_iald C dX6_matchOf_23 g_3 ?_
  refine g_iload_n C dX6_matchOf_24 1 rfl rfl ?_
  refine g_iand C dX6_matchOf_25 ?_
  refine g_if_eq (tgt := 31) C dX6_matchOf_26 (by decide) (fun c_5 => ?_) (fun c_5 => ?_)
  · replace h := it_t c_5 h
    refine g_aload_n C dX6_matchOf_31 2 rfl rfl ?_
    refine g_getT (b := rt v0 7) (ci := 6) (j := 7) C dX6_matchOf_32 rfl (by decide) rfl inT_X6 (by decide) k_105 rfl rfl rfl g_1 ?_
    refine g_iload_n C dX6_matchOf_35 3 rfl rfl ?_
    refine g_iald C dX6_matchOf_36 g_3 ?_
    refine g_iload C dX6_matchOf_37 0 rfl ?_
    refine g_iand C dX6_matchOf_39 ?_
    refine g_if_eq (tgt := 47) C dX6_matchOf_40 (by decide) (fun c_4 => ?_) (fun c_4 => ?_)
    · replace h := it_t c_4 h
      refine g_iconst (v := (0 : Int32)) C dX6_matchOf_47 (by decide) ?_
      obtain rfl := Option.some.inj h
      exact hE 48 _ dX6_matchOf_48
    · replace h := it_f c_4 h
      refine g_iconst (v := (1 : Int32)) C dX6_matchOf_43 (by decide) ?_
      refine g_goto (tgt := 48) C dX6_matchOf_44 (by decide) ?_
      obtain rfl := Option.some.inj h
      exact hE 48 _ dX6_matchOf_48
  · replace h := it_f c_5 h
    refine g_iconst (v := (2 : Int32)) C dX6_matchOf_29 (by decide) ?_
    obtain rfl := Option.some.inj h
    exact hE 30 _ dX6_matchOf_30
theorem c_X6_matchOf (N : Nat) (l : Launch) (hst : l.stackTraces = false) (w : Om) (v0 : Nat) (v1 : Int32) (v2 : Int32) (m : Mem) (o : Int32 × Mem) (h : f_X6_matchOf N v0 v1 v2 m = some o) : KI l yX6_matchOf cX6_matchOf 5 (some .int) 0 0 w [.ref (oa w v0), .int v1, .int v2] m o.1 o.2 := KI_of hst (by decide +kernel) RX6 rfl (Nat.le_of_ble_eq_true rfl) (fun Γ hw hl C hE => by
  subst hw; subst hl
  exact t_X6_matchOf N Γ C v0 v1 v2 m o h hE)
set_option maxRecDepth 100000 in
set_option maxHeartbeats 4000000 in
theorem t_X7_isDeclared (N : Nat) (Γ : Gc) (C : Cx Γ cX7_isDeclared 3 RX7 (rmK 0 0 0)) (v1 : Int32) (v2 : Int32) (m : Mem) (b : Int32 × Mem) (h : f_X7_isDeclared N v1 v2 m = some b) (hE : EZn Γ 3 cX7_isDeclared b) : G Γ 3 0 m 0 [(0, .ref (oa (gw Γ) 3)), (1, .int v1), (2, .int v2)] [] := by
  unfold f_X7_isDeclared at h
  refine g_aload_n C dX7_isDeclared_0 0 rfl rfl ?_
  refine g_getT (b := 5) (ci := 7) (j := 1) C dX7_isDeclared_1 rfl (by decide) rfl inT_X7 (by decide) k_49 rfl rfl rfl rfl ?_
  refine g_iload_n C dX7_isDeclared_4 1 rfl rfl ?_
  obtain ⟨g_1, h⟩ := gd_some h
  refine g_iald C dX7_isDeclared_5 (okA_of rfl rfl g_1) ?_
  refine g_iload_n C dX7_isDeclared_6 2 rfl rfl ?_
  refine g_ishr C dX7_isDeclared_7 ?_
  refine g_iconst (v := (1 : Int32)) C dX7_isDeclared_8 (by decide) ?_
  refine g_iand C dX7_isDeclared_9 ?_
  refine g_if_eq (tgt := 17) C dX7_isDeclared_10 (by decide) (fun c_2 => ?_) (fun c_2 => ?_)
  · replace h := it_t c_2 h
    refine g_iconst (v := (0 : Int32)) C dX7_isDeclared_17 (by decide) ?_
    obtain rfl := Option.some.inj h
    exact hE 18 _ (show isB (0 : Int32) = true by decide) dX7_isDeclared_18
  · replace h := it_f c_2 h
    refine g_iconst (v := (1 : Int32)) C dX7_isDeclared_13 (by decide) ?_
    refine g_goto (tgt := 18) C dX7_isDeclared_14 (by decide) ?_
    obtain rfl := Option.some.inj h
    exact hE 18 _ (show isB (1 : Int32) = true by decide) dX7_isDeclared_18
theorem c_X7_isDeclared (N : Nat) (l : Launch) (hst : l.stackTraces = false) (w : Om) (v1 : Int32) (v2 : Int32) (m : Mem) (o : Int32 × Mem) (h : f_X7_isDeclared N v1 v2 m = some o) : KI l yX7_isDeclared cX7_isDeclared 3 (some .boolean) 0 0 w [.ref (oa w 3), .int v1, .int v2] m o.1 o.2 := KZ_of hst (by decide +kernel) RX7 rfl (Nat.le_of_ble_eq_true rfl) (fun Γ hw hl C hE => by
  subst hw; subst hl
  exact t_X7_isDeclared N Γ C v1 v2 m o h hE)
set_option maxRecDepth 100000 in
set_option maxHeartbeats 4000000 in
theorem t_X9_hasConflict_24 (N : Nat) (Γ : Gc) (C : Cx Γ cX9_hasConflict 4 RX9 (rmK 1 22 0)) (b : Int32 × Mem) (hE : EZn Γ 4 cX9_hasConflict b)  (m : Mem) (h : B_X9_hasConflict_24 N  m = some b) : G Γ 4 0 m 24 [] [] := by
  unfold B_X9_hasConflict_24 at h
  refine g_iconst (v := (1 : Int32)) C dX9_hasConflict_24 (by decide) ?_
  refine g_goto (tgt := 29) C dX9_hasConflict_25 (by decide) ?_
  obtain rfl := Option.some.inj h
  exact hE 29 _ (show isB (1 : Int32) = true by decide) dX9_hasConflict_29
set_option maxRecDepth 100000 in
set_option maxHeartbeats 4000000 in
theorem t_X9_hasConflict (N : Nat) (Γ : Gc) (C : Cx Γ cX9_hasConflict 4 RX9 (rmK 1 22 0)) (v0 : Nat) (v2 : Int32) (v3 : Int32) (m : Mem) (b : Int32 × Mem) (h : f_X9_hasConflict N v0 v2 v3 m = some b) (hE : EZn Γ 4 cX9_hasConflict b) : G Γ 4 0 m 0 [(0, .ref (oa (gw Γ) v0)), (1, .ref (oa (gw Γ) 3)), (2, .int v2), (3, .int v3)] [] := by
  unfold f_X9_hasConflict at h
  refine g_aload_n C dX9_hasConflict_0 0 rfl rfl ?_
  obtain ⟨g_1, h⟩ := gd_some h
  refine g_getT (b := rt v0 5) (ci := 6) (j := 5) C dX9_hasConflict_1 rfl (by decide) rfl inT_X6 (by decide) k_106 rfl rfl rfl g_1 ?_
  refine g_iload_n C dX9_hasConflict_4 2 rfl rfl ?_
  obtain ⟨g_2, h⟩ := gd_some h
  refine g_iald C dX9_hasConflict_5 g_2 ?_
  refine g_aload_n C dX9_hasConflict_6 0 rfl rfl ?_
  refine g_getT (b := rt v0 10) (ci := 6) (j := 10) C dX9_hasConflict_7 rfl (by decide) rfl inT_X6 (by decide) k_107 rfl rfl rfl g_1 ?_
  refine g_iload_n C dX9_hasConflict_10 3 rfl rfl ?_
  obtain ⟨g_3, h⟩ := gd_some h
  refine g_iald C dX9_hasConflict_11 g_3 ?_
  refine g_icmp_eq (tgt := 24) C dX9_hasConflict_12 (by decide) (fun c_6 => ?_) (fun c_6 => ?_)
  · replace h := it_t c_6 h
    refine g_sub [] rfl ?_
    exact t_X9_hasConflict_24 N Γ C b hE  m h
  · replace h := it_f c_6 h
    refine g_aload_n C dX9_hasConflict_15 1 rfl rfl ?_
    refine g_iload_n C dX9_hasConflict_16 2 rfl rfl ?_
    refine g_iload_n C dX9_hasConflict_17 3 rfl rfl ?_
    obtain ⟨r_4, m_4, hk_4, h⟩ := b2_some h
    refine g_vI (As := [.int v2, .int v3]) (a := 3) (ci := 7) C dX9_hasConflict_18 mf_X7_isDeclared k_108 rfl (by decide) ⟨by decide, by decide⟩ rfl rfl (Nat.le_of_ble_eq_true rfl) (by decide) rfl (c_X7_isDeclared N (gl Γ) C.2.2.2.2 (gw Γ) v2 v3 m _ hk_4) ?_
    refine g_if_eq (tgt := 28) C dX9_hasConflict_21 (by decide) (fun c_5 => ?_) (fun c_5 => ?_)
    · replace h := it_t c_5 h
      refine g_iconst (v := (0 : Int32)) C dX9_hasConflict_28 (by decide) ?_
      obtain rfl := Option.some.inj h
      exact hE 29 _ (show isB (0 : Int32) = true by decide) dX9_hasConflict_29
    · replace h := it_f c_5 h
      refine g_sub [] rfl ?_
      exact t_X9_hasConflict_24 N Γ C b hE  m_4 h
theorem c_X9_hasConflict (N : Nat) (l : Launch) (hst : l.stackTraces = false) (w : Om) (v0 : Nat) (v2 : Int32) (v3 : Int32) (m : Mem) (o : Int32 × Mem) (h : f_X9_hasConflict N v0 v2 v3 m = some o) : KI l yX9_hasConflict cX9_hasConflict 4 (some .boolean) 1 22 w [.ref (oa w v0), .ref (oa w 3), .int v2, .int v3] m o.1 o.2 := KZ_of hst (by decide +kernel) RX9 rfl (Nat.le_of_ble_eq_true rfl) (fun Γ hw hl C hE => by
  subst hw; subst hl
  exact t_X9_hasConflict N Γ C v0 v2 v3 m o h hE)
set_option maxRecDepth 100000 in
set_option maxHeartbeats 4000000 in
theorem t_X9_fits_29 (N : Nat) (Γ : Gc) (C : Cx Γ cX9_fits 4 RX9 (rmK 2 45 0)) (b : Int32 × Mem) (hE : EZn Γ 4 cX9_fits b)  (m : Mem) (h : B_X9_fits_29 N  m = some b) : G Γ 4 0 m 29 [] [] := by
  unfold B_X9_fits_29 at h
  refine g_iconst (v := (0 : Int32)) C dX9_fits_29 (by decide) ?_
  obtain rfl := Option.some.inj h
  exact hE 30 _ (show isB (0 : Int32) = true by decide) dX9_fits_30
set_option maxRecDepth 100000 in
set_option maxHeartbeats 4000000 in
theorem t_X9_fits (N : Nat) (Γ : Gc) (C : Cx Γ cX9_fits 4 RX9 (rmK 2 45 0)) (v0 : Nat) (v2 : Int32) (v3 : Int32) (m : Mem) (b : Int32 × Mem) (h : f_X9_fits N v0 v2 v3 m = some b) (hE : EZn Γ 4 cX9_fits b) : G Γ 4 0 m 0 [(0, .ref (oa (gw Γ) v0)), (1, .ref (oa (gw Γ) 3)), (2, .int v2), (3, .int v3)] [] := by
  unfold f_X9_fits at h
  refine g_aload_n C dX9_fits_0 0 rfl rfl ?_
  obtain ⟨g_1, h⟩ := gd_some h
  refine g_getT (b := rt v0 4) (ci := 6) (j := 4) C dX9_fits_1 rfl (by decide) rfl inT_X6 (by decide) k_112 rfl rfl rfl g_1 ?_
  refine g_iload_n C dX9_fits_4 2 rfl rfl ?_
  obtain ⟨g_2, h⟩ := gd_some h
  refine g_iald C dX9_fits_5 g_2 ?_
  refine g_aload_n C dX9_fits_6 0 rfl rfl ?_
  refine g_getT (b := rt v0 9) (ci := 6) (j := 9) C dX9_fits_7 rfl (by decide) rfl inT_X6 (by decide) k_113 rfl rfl rfl g_1 ?_
  refine g_iload_n C dX9_fits_10 3 rfl rfl ?_
  obtain ⟨g_3, h⟩ := gd_some h
  refine g_iald C dX9_fits_11 g_3 ?_
  refine g_icmp_ne (tgt := 29) C dX9_fits_12 (by decide) (fun c_6 => ?_) (fun c_6 => ?_)
  · replace h := it_f c_6 h
    refine g_sub [] rfl ?_
    exact t_X9_fits_29 N Γ C b hE  m h
  · replace h := it_t c_6 h
    refine g_aload_n C dX9_fits_15 0 rfl rfl ?_
    refine g_aload_n C dX9_fits_16 1 rfl rfl ?_
    refine g_iload_n C dX9_fits_17 2 rfl rfl ?_
    refine g_iload_n C dX9_fits_18 3 rfl rfl ?_
    obtain ⟨r_4, m_4, hk_4, h⟩ := b2_some h
    refine g_sI (As := [.ref (oa (gw Γ) v0), .ref (oa (gw Γ) 3), .int v2, .int v3]) C dX9_fits_19 mf_X9_hasConflict k_114 ⟨by decide, by decide⟩ rfl rfl (Nat.le_of_ble_eq_true rfl) (by decide) (c_X9_hasConflict N (gl Γ) C.2.2.2.2 (gw Γ) v0 v2 v3 m _ hk_4) ?_
    refine g_if_ne (tgt := 29) C dX9_fits_22 (by decide) (fun c_5 => ?_) (fun c_5 => ?_)
    · replace h := it_f c_5 h
      refine g_sub [] rfl ?_
      exact t_X9_fits_29 N Γ C b hE  m_4 h
    · replace h := it_t c_5 h
      refine g_iconst (v := (1 : Int32)) C dX9_fits_25 (by decide) ?_
      refine g_goto (tgt := 30) C dX9_fits_26 (by decide) ?_
      obtain rfl := Option.some.inj h
      exact hE 30 _ (show isB (1 : Int32) = true by decide) dX9_fits_30
theorem c_X9_fits (N : Nat) (l : Launch) (hst : l.stackTraces = false) (w : Om) (v0 : Nat) (v2 : Int32) (v3 : Int32) (m : Mem) (o : Int32 × Mem) (h : f_X9_fits N v0 v2 v3 m = some o) : KI l yX9_fits cX9_fits 4 (some .boolean) 2 45 w [.ref (oa w v0), .ref (oa w 3), .int v2, .int v3] m o.1 o.2 := KZ_of hst (by decide +kernel) RX9 rfl (Nat.le_of_ble_eq_true rfl) (fun Γ hw hl C hE => by
  subst hw; subst hl
  exact t_X9_fits N Γ C v0 v2 v3 m o h hE)
def Ex_X4_prepare_29 (Γ : Gc) (cs : Nat) (b : Nat × Int32 × Mem) : Prop := (∀ (y1 : Nat) (y3 : Int32) (m' : Mem), b = (y1, y3, m') → G Γ 8 cs m' 58 [(0, .ref (oa (gw Γ) 51)), (1, .ref (oa (gw Γ) y1)), (2, .ref (oa (gw Γ) 3)), (3, .int y3)] [])
set_option maxRecDepth 100000 in
set_option maxHeartbeats 4000000 in
theorem t_X4_prepare_29 (N : Nat) (Γ : Gc) (C : Cx Γ cX4_prepare 8 RX4 (rmK 3 68 0)) (rc : Nat → Int32 → Int32 → Mem → Option (Nat × Int32 × Mem)) (b : Nat × Int32 × Mem) (hE : Ex_X4_prepare_29 Γ 0 b) (hrec : ∀ (v1 : Nat) (v3 : Int32) (v4 : Int32) (m : Mem) (b : Nat × Int32 × Mem), rc v1 v3 v4 m = some b → Ex_X4_prepare_29 Γ 0 b → G Γ 8 0 m 29 [(0, .ref (oa (gw Γ) 51)), (1, .ref (oa (gw Γ) v1)), (2, .ref (oa (gw Γ) 3)), (3, .int v3), (4, .int v4)] []) (v1 : Nat) (v3 : Int32) (v4 : Int32) (m : Mem) (h : T_X4_prepare_29 N rc v1 v3 v4 m = some b) : G Γ 8 0 m 29 [(0, .ref (oa (gw Γ) 51)), (1, .ref (oa (gw Γ) v1)), (2, .ref (oa (gw Γ) 3)), (3, .int v3), (4, .int v4)] [] := by
  unfold T_X4_prepare_29 at h
  refine g_iload C dX4_prepare_29 4 rfl ?_
  refine g_aload_n C dX4_prepare_31 0 rfl rfl ?_
  refine g_getI (ci := 4) (j := 8) C dX4_prepare_32 rfl (by decide) rfl inT_X4 (by decide) k_80 rfl rfl ?_
  refine g_icmp_ge (tgt := 58) C dX4_prepare_35 (by decide) (fun c_10 => ?_) (fun c_10 => ?_)
  · replace h := it_t c_10 h
    obtain rfl := Option.some.inj h
    refine g_sub [0, 1, 2, 3] rfl ?_
    exact hE _ _ _ rfl
  · replace h := it_f c_10 h
    refine g_aload_n C dX4_prepare_38 0 rfl rfl ?_
    refine g_getT (b := 54) (ci := 4) (j := 2) C dX4_prepare_39 rfl (by decide) rfl inT_X4 (by decide) k_81 rfl rfl rfl rfl ?_
    refine g_iload C dX4_prepare_42 4 rfl ?_
    refine g_aload_n C dX4_prepare_44 1 rfl rfl ?_
    obtain ⟨g_6, h⟩ := gd_some h
    refine g_getT (b := rt v1 6) (ci := 6) (j := 6) C dX4_prepare_45 rfl (by decide) rfl inT_X6 (by decide) k_121 rfl rfl rfl g_6 ?_
    refine g_iload C dX4_prepare_48 4 rfl ?_
    obtain ⟨g_7, h⟩ := gd_some h
    refine g_iald C dX4_prepare_50 g_7 ?_
    obtain ⟨g_8, h⟩ := gd_some h
    obtain ⟨m_9, e_9, h⟩ := wr_some h
    refine g_iast C dX4_prepare_51 (okA_of rfl rfl g_8) (G_m e_9 ?_)
    refine g_iinc (q := 4) (v := v4 + (1 : Int32)) (lv' := [(4, .int (v4 + (1 : Int32))), (0, .ref (oa (gw Γ) 51)), (1, .ref (oa (gw Γ) v1)), (2, .ref (oa (gw Γ) 3)), (3, .int v3)]) C dX4_prepare_52 rfl rfl (by decide) rfl ?_
    refine g_goto (tgt := 29) C dX4_prepare_55 (by decide) ?_
    refine g_sub [1, 2, 3, 4, 0] rfl ?_
    exact hrec v1 v3 (v4 + (1 : Int32)) m_9 b h hE
theorem lt_X4_prepare_29 (N : Nat) (Γ : Gc) (C : Cx Γ cX4_prepare 8 RX4 (rmK 3 68 0)) : ∀ (n : Nat) (v1 : Nat) (v3 : Int32) (v4 : Int32) (m : Mem) (b : Nat × Int32 × Mem), L_X4_prepare_29 N n v1 v3 v4 m = some b → Ex_X4_prepare_29 Γ 0 b → G Γ 8 0 m 29 [(0, .ref (oa (gw Γ) 51)), (1, .ref (oa (gw Γ) v1)), (2, .ref (oa (gw Γ) 3)), (3, .int v3), (4, .int v4)] [] := by
  intro n
  induction n with
  | zero =>
    intro v1 v3 v4 m b h
    have h9 : (none : Option (Nat × Int32 × Mem)) = some b := h
    cases h9
  | succ n ih => intro v1 v3 v4 m b h hE; exact t_X4_prepare_29 N Γ C (L_X4_prepare_29 N n) b hE ih v1 v3 v4 m h
def Ex_X4_prepare_111 (Γ : Gc) (cs : Nat) (b : Nat × Int32 × Int32 × Mem) : Prop := (∀ (y1 : Nat) (y3 : Int32) (y4 : Int32) (m' : Mem), b = (y1, y3, y4, m') → G Γ 8 cs m' 192 [(0, .ref (oa (gw Γ) 51)), (1, .ref (oa (gw Γ) y1)), (2, .ref (oa (gw Γ) 3)), (3, .int y3), (4, .int y4)] [])
set_option maxRecDepth 100000 in
set_option maxHeartbeats 4000000 in
theorem t_X4_prepare_172 (N : Nat) (Γ : Gc) (C : Cx Γ cX4_prepare 8 RX4 (rmK 3 68 0)) (rc : Nat → Int32 → Int32 → Int32 → Int32 → Mem → Option (Nat × Int32 × Int32 × Mem)) (b : Nat × Int32 × Int32 × Mem) (hE : Ex_X4_prepare_111 Γ 0 b) (hrec : ∀ (v1 : Nat) (v3 : Int32) (v4 : Int32) (v5 : Int32) (v6 : Int32) (m : Mem) (b : Nat × Int32 × Int32 × Mem), rc v1 v3 v4 v5 v6 m = some b → Ex_X4_prepare_111 Γ 0 b → G Γ 8 0 m 111 [(0, .ref (oa (gw Γ) 51)), (1, .ref (oa (gw Γ) v1)), (2, .ref (oa (gw Γ) 3)), (3, .int v3), (4, .int v4), (5, .int v5), (6, .int v6)] []) (v1 : Nat) (v3 : Int32) (v4 : Int32) (v5 : Int32) (v6 : Int32) (s0 : Int32) (s1 : Int32) (m : Mem) (h : B_X4_prepare_172 N rc v1 v3 v4 v5 v6 s0 s1 m = some b) : G Γ 8 0 m 172 [(0, .ref (oa (gw Γ) 51)), (1, .ref (oa (gw Γ) v1)), (2, .ref (oa (gw Γ) 3)), (3, .int v3), (4, .int v4), (5, .int v5), (6, .int v6)] [.int s0, .int s1, .ref (oa (gw Γ) 52)] := by
  unfold B_X4_prepare_172 at h
  obtain ⟨g_17, h⟩ := gd_some h
  obtain ⟨m_18, e_18, h⟩ := wr_some h
  refine g_iast C dX4_prepare_172 (okA_of rfl rfl g_17) (G_m e_18 ?_)
  refine g_aload_n C dX4_prepare_173 0 rfl rfl ?_
  refine g_getT (b := 53) (ci := 4) (j := 1) C dX4_prepare_174 rfl (by decide) rfl inT_X4 (by decide) k_89 rfl rfl rfl rfl ?_
  refine g_iload C dX4_prepare_177 6 rfl ?_
  refine g_iload C dX4_prepare_179 4 rfl ?_
  obtain ⟨r_19, m_19, hk_19, h⟩ := b2_some h
  refine g_nI (As := [.int v6, .int v4]) C dX4_prepare_181 mf_X9_cell (List.mem_of_getElem? (i := 2) rfl) ⟨by decide, by decide⟩ rfl rfl (Nat.le_of_ble_eq_true rfl) (by decide) (c_X9_cell N (gl Γ) C.2.2.2.2 (gw Γ) v6 v4 m_18 _ hk_19) ?_
  refine g_iconst (v := (0 : Int32)) C dX4_prepare_184 (by decide) ?_
  obtain ⟨g_20, h⟩ := gd_some h
  obtain ⟨m_21, e_21, h⟩ := wr_some h
  refine g_zast C dX4_prepare_185 (okA_of rfl rfl g_20) (G_m e_21 ?_)
  refine g_iinc (q := 6) (v := v6 + (1 : Int32)) (lv' := [(6, .int (v6 + (1 : Int32))), (0, .ref (oa (gw Γ) 51)), (1, .ref (oa (gw Γ) v1)), (2, .ref (oa (gw Γ) 3)), (3, .int v3), (4, .int v4), (5, .int v5)]) C dX4_prepare_186 rfl rfl (by decide) rfl ?_
  refine g_goto (tgt := 111) C dX4_prepare_189 (by decide) ?_
  refine g_sub [1, 2, 3, 4, 5, 6, 0] rfl ?_
  exact hrec v1 v3 v4 v5 (v6 + (1 : Int32)) m_21 b h hE
set_option maxRecDepth 100000 in
set_option maxHeartbeats 4000000 in
theorem t_X4_prepare_142 (N : Nat) (Γ : Gc) (C : Cx Γ cX4_prepare 8 RX4 (rmK 3 68 0)) (rc : Nat → Int32 → Int32 → Int32 → Int32 → Mem → Option (Nat × Int32 × Int32 × Mem)) (b : Nat × Int32 × Int32 × Mem) (hE : Ex_X4_prepare_111 Γ 0 b) (hrec : ∀ (v1 : Nat) (v3 : Int32) (v4 : Int32) (v5 : Int32) (v6 : Int32) (m : Mem) (b : Nat × Int32 × Int32 × Mem), rc v1 v3 v4 v5 v6 m = some b → Ex_X4_prepare_111 Γ 0 b → G Γ 8 0 m 111 [(0, .ref (oa (gw Γ) 51)), (1, .ref (oa (gw Γ) v1)), (2, .ref (oa (gw Γ) 3)), (3, .int v3), (4, .int v4), (5, .int v5), (6, .int v6)] []) (v1 : Nat) (v3 : Int32) (v4 : Int32) (v5 : Int32) (v6 : Int32) (s0 : Int32) (m : Mem) (h : B_X4_prepare_142 N rc v1 v3 v4 v5 v6 s0 m = some b) : G Γ 8 0 m 142 [(0, .ref (oa (gw Γ) 51)), (1, .ref (oa (gw Γ) v1)), (2, .ref (oa (gw Γ) 3)), (3, .int v3), (4, .int v4), (5, .int v5), (6, .int v6)] [.int s0] := by
  unfold B_X4_prepare_142 at h
  refine g_istore (lv' := [(7, .int s0), (0, .ref (oa (gw Γ) 51)), (1, .ref (oa (gw Γ) v1)), (2, .ref (oa (gw Γ) 3)), (3, .int v3), (4, .int v4), (5, .int v5), (6, .int v6)]) C dX4_prepare_142 (by decide) rfl ?_
  refine g_aload_n C dX4_prepare_144 1 rfl rfl ?_
  refine g_getT (b := 52) (ci := 4) (j := 0) C dX4_prepare_145 rfl (by decide) rfl inT_X4 (by decide) k_90 rfl rfl rfl rfl ?_
  refine g_iload C dX4_prepare_148 7 rfl ?_
  refine g_iload C dX4_prepare_150 5 rfl ?_
  obtain ⟨r_16, m_16, hk_16, h⟩ := b2_some h
  refine g_nI (As := [.int v6, .int v4]) C dX4_prepare_152 mf_X9_cell (List.mem_of_getElem? (i := 2) rfl) ⟨by decide, by decide⟩ rfl rfl (Nat.le_of_ble_eq_true rfl) (by decide) (c_X9_cell N (gl Γ) C.2.2.2.2 (gw Γ) v6 v4 m _ hk_16) ?_
  refine g_iload C dX4_prepare_155 0 rfl ?_
  refine g_if_eq (tgt := 171) C dX4_prepare_157 (by decide) (fun c_24 => ?_) (fun c_24 => ?_)
  · replace h := it_t c_24 h
    refine g_iconst (v := (-1 : Int32)) C dX4_prepare_171 (by decide) ?_
    refine g_sub [1, 2, 3, 4, 5, 6, 7] rfl ?_
    exact t_X4_prepare_172 N Γ C rc b hE hrec v1 v3 v4 v5 v6 (-1 : Int32) r_16 m_16 h
  · replace h := it_f c_24 h
    refine g_aload_n C dX4_prepare_160 2 rfl rfl ?_
    refine g_iload C dX4_prepare_161 7 rfl ?_
    refine g_iload C dX4_prepare_163 5 rfl ?_
    obtain ⟨g_22, h⟩ := gd_some h
    obtain ⟨r_23, m_23, hk_23, h⟩ := b2_some h
    refine g_vI (As := [.int v6, .int v4]) (a := v1) (ci := 6) C dX4_prepare_165 mf_X6_matchOf k_123 rfl (by decide) ⟨by decide, by decide⟩ rfl rfl (Nat.le_of_ble_eq_true rfl) (by decide) g_22 (c_X6_matchOf N (gl Γ) C.2.2.2.2 (gw Γ) v1 v6 v4 m_16 _ hk_23) ?_
    refine g_goto (tgt := 172) C dX4_prepare_168 (by decide) ?_
    refine g_sub [1, 2, 3, 4, 5, 6, 7] rfl ?_
    exact t_X4_prepare_172 N Γ C rc b hE hrec v1 v3 v4 v5 v6 r_23 r_16 m_23 h
set_option maxRecDepth 100000 in
set_option maxHeartbeats 4000000 in
theorem t_X4_prepare_141 (N : Nat) (Γ : Gc) (C : Cx Γ cX4_prepare 8 RX4 (rmK 3 68 0)) (rc : Nat → Int32 → Int32 → Int32 → Int32 → Mem → Option (Nat × Int32 × Int32 × Mem)) (b : Nat × Int32 × Int32 × Mem) (hE : Ex_X4_prepare_111 Γ 0 b) (hrec : ∀ (v1 : Nat) (v3 : Int32) (v4 : Int32) (v5 : Int32) (v6 : Int32) (m : Mem) (b : Nat × Int32 × Int32 × Mem), rc v1 v3 v4 v5 v6 m = some b → Ex_X4_prepare_111 Γ 0 b → G Γ 8 0 m 111 [(0, .ref (oa (gw Γ) 51)), (1, .ref (oa (gw Γ) v1)), (2, .ref (oa (gw Γ) 3)), (3, .int v3), (4, .int v4), (5, .int v5), (6, .int v6)] []) (v1 : Nat) (v3 : Int32) (v4 : Int32) (v5 : Int32) (v6 : Int32) (m : Mem) (h : B_X4_prepare_141 N rc v1 v3 v4 v5 v6 m = some b) : G Γ 8 0 m 141 [(0, .ref (oa (gw Γ) 51)), (1, .ref (oa (gw Γ) v1)), (2, .ref (oa (gw Γ) 3)), (3, .int v3), (4, .int v4), (5, .int v5), (6, .int v6)] [] := by
  unfold B_X4_prepare_141 at h
  refine g_iconst (v := (0 : Int32)) C dX4_prepare_141 (by decide) ?_
  refine g_sub [0, 1, 2, 3, 4, 5, 6] rfl ?_
  exact t_X4_prepare_142 N Γ C rc b hE hrec v1 v3 v4 v5 v6 (0 : Int32) m h
set_option maxRecDepth 100000 in
set_option maxHeartbeats 4000000 in
theorem t_X4_prepare_111 (N : Nat) (Γ : Gc) (C : Cx Γ cX4_prepare 8 RX4 (rmK 3 68 0)) (rc : Nat → Int32 → Int32 → Int32 → Int32 → Mem → Option (Nat × Int32 × Int32 × Mem)) (b : Nat × Int32 × Int32 × Mem) (hE : Ex_X4_prepare_111 Γ 0 b) (hrec : ∀ (v1 : Nat) (v3 : Int32) (v4 : Int32) (v5 : Int32) (v6 : Int32) (m : Mem) (b : Nat × Int32 × Int32 × Mem), rc v1 v3 v4 v5 v6 m = some b → Ex_X4_prepare_111 Γ 0 b → G Γ 8 0 m 111 [(0, .ref (oa (gw Γ) 51)), (1, .ref (oa (gw Γ) v1)), (2, .ref (oa (gw Γ) 3)), (3, .int v3), (4, .int v4), (5, .int v5), (6, .int v6)] []) (v1 : Nat) (v3 : Int32) (v4 : Int32) (v5 : Int32) (v6 : Int32) (m : Mem) (h : T_X4_prepare_111 N rc v1 v3 v4 v5 v6 m = some b) : G Γ 8 0 m 111 [(0, .ref (oa (gw Γ) 51)), (1, .ref (oa (gw Γ) v1)), (2, .ref (oa (gw Γ) 3)), (3, .int v3), (4, .int v4), (5, .int v5), (6, .int v6)] [] := by
  unfold T_X4_prepare_111 at h
  refine g_iload C dX4_prepare_111 6 rfl ?_
  refine g_aload_n C dX4_prepare_113 0 rfl rfl ?_
  refine g_getI (ci := 4) (j := 8) C dX4_prepare_114 rfl (by decide) rfl inT_X4 (by decide) k_80 rfl rfl ?_
  refine g_icmp_ge (tgt := 192) C dX4_prepare_117 (by decide) (fun c_28 => ?_) (fun c_28 => ?_)
  · replace h := it_t c_28 h
    obtain rfl := Option.some.inj h
    refine g_sub [0, 1, 2, 3, 4] rfl ?_
    exact hE _ _ _ _ rfl
  · replace h := it_f c_28 h
    refine g_iload C dX4_prepare_120 5 rfl ?_
    refine g_if_eq (tgt := 141) C dX4_prepare_122 (by decide) (fun c_27 => ?_) (fun c_27 => ?_)
    · replace h := it_t c_27 h
      refine g_sub [0, 1, 2, 3, 4, 5, 6] rfl ?_
      exact t_X4_prepare_141 N Γ C rc b hE hrec v1 v3 v4 v5 v6 m h
    · replace h := it_f c_27 h
      refine g_aload_n C dX4_prepare_125 1 rfl rfl ?_
      refine g_aload_n C dX4_prepare_126 2 rfl rfl ?_
      refine g_iload C dX4_prepare_127 6 rfl ?_
      refine g_iload C dX4_prepare_129 4 rfl ?_
      obtain ⟨r_25, m_25, hk_25, h⟩ := b2_some h
      refine g_nI (As := [.ref (oa (gw Γ) v1), .ref (oa (gw Γ) 3), .int v6, .int v4]) C dX4_prepare_131 mf_X9_fits (List.mem_of_getElem? (i := 1) rfl) ⟨by decide, by decide⟩ rfl rfl (Nat.le_of_ble_eq_true rfl) (by decide) (c_X9_fits N (gl Γ) C.2.2.2.2 (gw Γ) v1 v6 v4 m _ hk_25) ?_
      refine g_if_eq (tgt := 141) C dX4_prepare_134 (by decide) (fun c_26 => ?_) (fun c_26 => ?_)
      · replace h := it_t c_26 h
        refine g_sub [0, 1, 2, 3, 4, 5, 6] rfl ?_
        exact t_X4_prepare_141 N Γ C rc b hE hrec v1 v3 v4 v5 v6 m_25 h
      · replace h := it_f c_26 h
        refine g_iconst (v := (1 : Int32)) C dX4_prepare_137 (by decide) ?_
        refine g_goto (tgt := 142) C dX4_prepare_138 (by decide) ?_
        refine g_sub [0, 1, 2, 3, 4, 5, 6] rfl ?_
        exact t_X4_prepare_142 N Γ C rc b hE hrec v1 v3 v4 v5 v6 (1 : Int32) m_25 h
theorem lt_X4_prepare_111 (N : Nat) (Γ : Gc) (C : Cx Γ cX4_prepare 8 RX4 (rmK 3 68 0)) : ∀ (n : Nat) (v1 : Nat) (v3 : Int32) (v4 : Int32) (v5 : Int32) (v6 : Int32) (m : Mem) (b : Nat × Int32 × Int32 × Mem), L_X4_prepare_111 N n v1 v3 v4 v5 v6 m = some b → Ex_X4_prepare_111 Γ 0 b → G Γ 8 0 m 111 [(0, .ref (oa (gw Γ) 51)), (1, .ref (oa (gw Γ) v1)), (2, .ref (oa (gw Γ) 3)), (3, .int v3), (4, .int v4), (5, .int v5), (6, .int v6)] [] := by
  intro n
  induction n with
  | zero =>
    intro v1 v3 v4 v5 v6 m b h
    have h9 : (none : Option (Nat × Int32 × Int32 × Mem)) = some b := h
    cases h9
  | succ n ih => intro v1 v3 v4 v5 v6 m b h hE; exact t_X4_prepare_111 N Γ C (L_X4_prepare_111 N n) b hE ih v1 v3 v4 v5 v6 m h
def Ex_X4_prepare_61 (Γ : Gc) (cs : Nat) (b : Mem) : Prop := (∀  (m' : Mem), b = m' → G Γ 8 cs m' 198 [] [])
set_option maxRecDepth 100000 in
set_option maxHeartbeats 4000000 in
theorem t_X4_prepare_107 (N : Nat) (Γ : Gc) (C : Cx Γ cX4_prepare 8 RX4 (rmK 3 68 0)) (rc : Nat → Int32 → Int32 → Mem → Option (Mem)) (b : Mem) (hE : Ex_X4_prepare_61 Γ 0 b) (hrec : ∀ (v1 : Nat) (v3 : Int32) (v4 : Int32) (m : Mem) (b : Mem), rc v1 v3 v4 m = some b → Ex_X4_prepare_61 Γ 0 b → G Γ 8 0 m 61 [(0, .ref (oa (gw Γ) 51)), (1, .ref (oa (gw Γ) v1)), (2, .ref (oa (gw Γ) 3)), (3, .int v3), (4, .int v4)] []) (v1 : Nat) (v3 : Int32) (v4 : Int32) (v5 : Int32) (s0 : Int32) (s1 : Int32) (m : Mem) (h : B_X4_prepare_107 N rc v1 v3 v4 v5 s0 s1 m = some b) : G Γ 8 0 m 107 [(0, .ref (oa (gw Γ) 51)), (1, .ref (oa (gw Γ) v1)), (2, .ref (oa (gw Γ) 3)), (3, .int v3), (4, .int v4), (5, .int v5)] [.int s0, .int s1, .ref (oa (gw Γ) 55)] := by
  unfold B_X4_prepare_107 at h
  obtain ⟨g_14, h⟩ := gd_some h
  obtain ⟨m_15, e_15, h⟩ := wr_some h
  refine g_iast C dX4_prepare_107 (okA_of rfl rfl g_14) (G_m e_15 ?_)
  refine g_iconst (v := (0 : Int32)) C dX4_prepare_108 (by decide) ?_
  refine g_istore (lv' := [(6, .int (0 : Int32)), (0, .ref (oa (gw Γ) 51)), (1, .ref (oa (gw Γ) v1)), (2, .ref (oa (gw Γ) 3)), (3, .int v3), (4, .int v4), (5, .int v5)]) C dX4_prepare_109 (by decide) rfl ?_
  obtain ⟨v1_29, v3_29, v4_29, m_29, hx, h⟩ := l4_some h
  refine g_sub [1, 2, 3, 4, 5, 6, 0] rfl ?_
  refine lt_X4_prepare_111 N Γ C N v1 v3 v4 v5 (0 : Int32) m_15 _ hx ?_
  intro z1 z3 z4 m9 e9
  cases e9
  refine g_iinc (q := 4) (v := v4_29 + (1 : Int32)) (lv' := [(4, .int (v4_29 + (1 : Int32))), (0, .ref (oa (gw Γ) 51)), (1, .ref (oa (gw Γ) v1_29)), (2, .ref (oa (gw Γ) 3)), (3, .int v3_29)]) C dX4_prepare_192 rfl rfl (by decide) rfl ?_
  refine g_goto (tgt := 61) C dX4_prepare_195 (by decide) ?_
  refine g_sub [1, 2, 3, 4, 0] rfl ?_
  exact hrec v1_29 v3_29 (v4_29 + (1 : Int32)) m_29 b h hE
set_option maxRecDepth 100000 in
set_option maxHeartbeats 4000000 in
theorem t_X4_prepare_86 (N : Nat) (Γ : Gc) (C : Cx Γ cX4_prepare 8 RX4 (rmK 3 68 0)) (rc : Nat → Int32 → Int32 → Mem → Option (Mem)) (b : Mem) (hE : Ex_X4_prepare_61 Γ 0 b) (hrec : ∀ (v1 : Nat) (v3 : Int32) (v4 : Int32) (m : Mem) (b : Mem), rc v1 v3 v4 m = some b → Ex_X4_prepare_61 Γ 0 b → G Γ 8 0 m 61 [(0, .ref (oa (gw Γ) 51)), (1, .ref (oa (gw Γ) v1)), (2, .ref (oa (gw Γ) 3)), (3, .int v3), (4, .int v4)] []) (v1 : Nat) (v3 : Int32) (v4 : Int32) (s0 : Int32) (m : Mem) (h : B_X4_prepare_86 N rc v1 v3 v4 s0 m = some b) : G Γ 8 0 m 86 [(0, .ref (oa (gw Γ) 51)), (1, .ref (oa (gw Γ) v1)), (2, .ref (oa (gw Γ) 3)), (3, .int v3), (4, .int v4)] [.int s0] := by
  unfold B_X4_prepare_86 at h
  refine g_istore (lv' := [(5, .int s0), (0, .ref (oa (gw Γ) 51)), (1, .ref (oa (gw Γ) v1)), (2, .ref (oa (gw Γ) 3)), (3, .int v3), (4, .int v4)]) C dX4_prepare_86 (by decide) rfl ?_
  refine g_aload_n C dX4_prepare_88 1 rfl rfl ?_
  refine g_getT (b := 55) (ci := 4) (j := 3) C dX4_prepare_89 rfl (by decide) rfl inT_X4 (by decide) k_94 rfl rfl rfl rfl ?_
  refine g_iload C dX4_prepare_92 5 rfl ?_
  refine g_iload C dX4_prepare_94 0 rfl ?_
  refine g_if_eq (tgt := 106) C dX4_prepare_96 (by decide) (fun c_31 => ?_) (fun c_31 => ?_)
  · replace h := it_t c_31 h
    refine g_iconst (v := (0 : Int32)) C dX4_prepare_106 (by decide) ?_
    refine g_sub [1, 2, 3, 4, 5, 0] rfl ?_
    exact t_X4_prepare_107 N Γ C rc b hE hrec v1 v3 v4 s0 (0 : Int32) v4 m h
  · replace h := it_f c_31 h
    refine g_aload_n C dX4_prepare_99 2 rfl rfl ?_
    obtain ⟨g_30, h⟩ := gd_some h
    refine g_getI (ci := 6) (j := 14) C dX4_prepare_100 rfl (by decide) rfl inT_X6 (by decide) k_130 rfl g_30 ?_
    refine g_goto (tgt := 107) C dX4_prepare_103 (by decide) ?_
    refine g_sub [1, 2, 3, 4, 5, 0] rfl ?_
    exact t_X4_prepare_107 N Γ C rc b hE hrec v1 v3 v4 s0 (gI m v1 14) v4 m h
set_option maxRecDepth 100000 in
set_option maxHeartbeats 4000000 in
theorem t_X4_prepare_61 (N : Nat) (Γ : Gc) (C : Cx Γ cX4_prepare 8 RX4 (rmK 3 68 0)) (rc : Nat → Int32 → Int32 → Mem → Option (Mem)) (b : Mem) (hE : Ex_X4_prepare_61 Γ 0 b) (hrec : ∀ (v1 : Nat) (v3 : Int32) (v4 : Int32) (m : Mem) (b : Mem), rc v1 v3 v4 m = some b → Ex_X4_prepare_61 Γ 0 b → G Γ 8 0 m 61 [(0, .ref (oa (gw Γ) 51)), (1, .ref (oa (gw Γ) v1)), (2, .ref (oa (gw Γ) 3)), (3, .int v3), (4, .int v4)] []) (v1 : Nat) (v3 : Int32) (v4 : Int32) (m : Mem) (h : T_X4_prepare_61 N rc v1 v3 v4 m = some b) : G Γ 8 0 m 61 [(0, .ref (oa (gw Γ) 51)), (1, .ref (oa (gw Γ) v1)), (2, .ref (oa (gw Γ) 3)), (3, .int v3), (4, .int v4)] [] := by
  unfold T_X4_prepare_61 at h
  refine g_iload C dX4_prepare_61 4 rfl ?_
  refine g_aload_n C dX4_prepare_63 0 rfl rfl ?_
  refine g_getI (ci := 4) (j := 9) C dX4_prepare_64 rfl (by decide) rfl inT_X4 (by decide) k_84 rfl rfl ?_
  refine g_icmp_ge (tgt := 198) C dX4_prepare_67 (by decide) (fun c_33 => ?_) (fun c_33 => ?_)
  · replace h := it_t c_33 h
    obtain rfl := Option.some.inj h
    refine g_sub [] rfl ?_
    exact hE _ rfl
  · replace h := it_f c_33 h
    refine g_aload_n C dX4_prepare_70 1 rfl rfl ?_
    obtain ⟨g_12, h⟩ := gd_some h
    refine g_getT (b := rt v1 9) (ci := 6) (j := 9) C dX4_prepare_71 rfl (by decide) rfl inT_X6 (by decide) k_122 rfl rfl rfl g_12 ?_
    refine g_iload C dX4_prepare_74 4 rfl ?_
    obtain ⟨g_13, h⟩ := gd_some h
    refine g_iald C dX4_prepare_76 g_13 ?_
    refine g_iload_n C dX4_prepare_77 3 rfl rfl ?_
    refine g_icmp_ne (tgt := 85) C dX4_prepare_78 (by decide) (fun c_32 => ?_) (fun c_32 => ?_)
    · replace h := it_f c_32 h
      refine g_iconst (v := (0 : Int32)) C dX4_prepare_85 (by decide) ?_
      refine g_sub [0, 1, 2, 3, 4] rfl ?_
      exact t_X4_prepare_86 N Γ C rc b hE hrec v1 v3 v4 (0 : Int32) m h
    · replace h := it_t c_32 h
      refine g_iconst (v := (1 : Int32)) C dX4_prepare_81 (by decide) ?_
      refine g_goto (tgt := 86) C dX4_prepare_82 (by decide) ?_
      refine g_sub [0, 1, 2, 3, 4] rfl ?_
      exact t_X4_prepare_86 N Γ C rc b hE hrec v1 v3 v4 (1 : Int32) m h
theorem lt_X4_prepare_61 (N : Nat) (Γ : Gc) (C : Cx Γ cX4_prepare 8 RX4 (rmK 3 68 0)) : ∀ (n : Nat) (v1 : Nat) (v3 : Int32) (v4 : Int32) (m : Mem) (b : Mem), L_X4_prepare_61 N n v1 v3 v4 m = some b → Ex_X4_prepare_61 Γ 0 b → G Γ 8 0 m 61 [(0, .ref (oa (gw Γ) 51)), (1, .ref (oa (gw Γ) v1)), (2, .ref (oa (gw Γ) 3)), (3, .int v3), (4, .int v4)] [] := by
  intro n
  induction n with
  | zero =>
    intro v1 v3 v4 m b h
    have h9 : (none : Option (Mem)) = some b := h
    cases h9
  | succ n ih => intro v1 v3 v4 m b h hE; exact t_X4_prepare_61 N Γ C (L_X4_prepare_61 N n) b hE ih v1 v3 v4 m h
set_option maxRecDepth 100000 in
set_option maxHeartbeats 4000000 in
theorem t_X4_prepare (N : Nat) (Γ : Gc) (C : Cx Γ cX4_prepare 8 RX4 (rmK 3 68 0)) (v1 : Nat) (v3 : Int32) (m : Mem) (b : Mem) (h : f_X4_prepare N v1 v3 m = some b) (hE : EVn Γ 8 cX4_prepare b) : G Γ 8 0 m 0 [(0, .ref (oa (gw Γ) 51)), (1, .ref (oa (gw Γ) v1)), (2, .ref (oa (gw Γ) 3)), (3, .int v3)] [] := by
  unfold f_X4_prepare at h
  refine g_aload_n C dX4_prepare_0 0 rfl rfl ?_
  refine g_iconst (v := (0 : Int32)) C dX4_prepare_1 (by decide) ?_
  obtain ⟨m_1, e_1, h⟩ := wr_some h
  refine g_putI (ci := 4) (j := 10) C dX4_prepare_2 rfl (by decide) rfl inT_X4 (by decide) k_117 tyX4 tyX4_ok nmX4 rfl rfl rfl rfl rfl (G_m e_1 ?_)
  refine g_aload_n C dX4_prepare_5 0 rfl rfl ?_
  refine g_iconst (v := (0 : Int32)) C dX4_prepare_6 (by decide) ?_
  obtain ⟨m_2, e_2, h⟩ := wr_some h
  refine g_putI (ci := 4) (j := 11) C dX4_prepare_7 rfl (by decide) rfl inT_X4 (by decide) k_118 tyX4 tyX4_ok nmX4 rfl rfl rfl rfl rfl (G_m e_2 ?_)
  refine g_aload_n C dX4_prepare_10 0 rfl rfl ?_
  refine g_aload_n C dX4_prepare_11 1 rfl rfl ?_
  obtain ⟨g_3, h⟩ := gd_some h
  refine g_getI (ci := 6) (j := 1) C dX4_prepare_12 rfl (by decide) rfl inT_X6 (by decide) k_119 rfl g_3 ?_
  obtain ⟨m_4, e_4, h⟩ := wr_some h
  refine g_putI (ci := 4) (j := 8) C dX4_prepare_15 rfl (by decide) rfl inT_X4 (by decide) k_80 tyX4 tyX4_ok nmX4 rfl rfl rfl rfl rfl (G_m e_4 ?_)
  refine g_aload_n C dX4_prepare_18 0 rfl rfl ?_
  refine g_aload_n C dX4_prepare_19 1 rfl rfl ?_
  refine g_getI (ci := 6) (j := 2) C dX4_prepare_20 rfl (by decide) rfl inT_X6 (by decide) k_120 rfl g_3 ?_
  obtain ⟨m_5, e_5, h⟩ := wr_some h
  refine g_putI (ci := 4) (j := 9) C dX4_prepare_23 rfl (by decide) rfl inT_X4 (by decide) k_84 tyX4 tyX4_ok nmX4 rfl rfl rfl rfl rfl (G_m e_5 ?_)
  refine g_iconst (v := (0 : Int32)) C dX4_prepare_26 (by decide) ?_
  refine g_istore (lv' := [(4, .int (0 : Int32)), (0, .ref (oa (gw Γ) 51)), (1, .ref (oa (gw Γ) v1)), (2, .ref (oa (gw Γ) 3)), (3, .int v3)]) C dX4_prepare_27 (by decide) rfl ?_
  obtain ⟨v1_11, v3_11, m_11, hx, h⟩ := l3_some h
  refine g_sub [1, 2, 3, 4, 0] rfl ?_
  refine lt_X4_prepare_29 N Γ C N v1 v3 (0 : Int32) m_5 _ hx ?_
  intro z1 z3 m9 e9
  cases e9
  refine g_iconst (v := (0 : Int32)) C dX4_prepare_58 (by decide) ?_
  refine g_istore (lv' := [(4, .int (0 : Int32)), (0, .ref (oa (gw Γ) 51)), (1, .ref (oa (gw Γ) v1_11)), (2, .ref (oa (gw Γ) 3)), (3, .int v3_11)]) C dX4_prepare_59 (by decide) rfl ?_
  obtain ⟨m_34, hx, h⟩ := l1_some h
  refine g_sub [1, 2, 3, 4, 0] rfl ?_
  refine lt_X4_prepare_61 N Γ C N v1_11 v3_11 (0 : Int32) m_11 _ hx ?_
  intro  m9 e9
  cases e9
  obtain rfl := Option.some.inj h
  exact hE 198 _ dX4_prepare_198
theorem c_X4_prepare (N : Nat) (l : Launch) (hst : l.stackTraces = false) (w : Om) (v1 : Nat) (v3 : Int32) (m : Mem) (o : Mem) (h : f_X4_prepare N v1 v3 m = some o) : KV l yX4_prepare cX4_prepare 8 none 3 68 w [.ref (oa w 51), .ref (oa w v1), .ref (oa w 3), .int v3] m o := KV_of hst (by decide +kernel) RX4 rfl (Nat.le_of_ble_eq_true rfl) (fun Γ hw hl C hE => by
  subst hw; subst hl
  exact t_X4_prepare N Γ C v1 v3 m o h hE)
def Ex_X4_solve_10 (Γ : Gc) (cs : Nat) (b : (Mem) ⊕ (Mem)) : Prop := (∀  (m' : Mem), b = .inl (m') → G Γ 6 cs m' 72 [] []) ∧ (∀  (m' : Mem), b = .inr (m') → G Γ 6 cs m' 33 [] [])
set_option maxRecDepth 100000 in
set_option maxHeartbeats 4000000 in
theorem t_X4_solve_10 (N : Nat) (Γ : Gc) (C : Cx Γ cX4_solve 6 RX4 (rmK 4 95 0)) (rc : Int32 → Mem → Option ((Mem) ⊕ (Mem))) (b : (Mem) ⊕ (Mem)) (hE : Ex_X4_solve_10 Γ 0 b) (hrec : ∀ (v4 : Int32) (m : Mem) (b : (Mem) ⊕ (Mem)), rc v4 m = some b → Ex_X4_solve_10 Γ 0 b → G Γ 6 0 m 10 [(0, .ref (oa (gw Γ) 51)), (4, .int v4)] []) (v4 : Int32) (m : Mem) (h : T_X4_solve_10 N rc v4 m = some b) : G Γ 6 0 m 10 [(0, .ref (oa (gw Γ) 51)), (4, .int v4)] [] := by
  unfold T_X4_solve_10 at h
  refine g_iload C dX4_solve_10 1 rfl ?_
  refine g_bipush (v := (64 : Int32)) C dX4_solve_12 (by decide) ?_
  refine g_icmp_ge (tgt := 72) C dX4_solve_14 (by decide) (fun c_9 => ?_) (fun c_9 => ?_)
  · replace h := it_t c_9 h
    obtain rfl := Option.some.inj h
    refine g_sub [] rfl ?_
    exact hE.1 _ rfl
  · replace h := it_f c_9 h
    refine g_aload_n C dX4_solve_17 0 rfl rfl ?_
    obtain ⟨m_2, hk_2, h⟩ := b1_some h
    refine g_vV (As := []) (a := 51) (ci := 4) C dX4_solve_18 mf_X4_findPaths k_135 rfl (by decide) ⟨by decide, by decide⟩ rfl rfl (Nat.le_of_ble_eq_true rfl) (by decide) rfl (c_X4_findPaths N (gl Γ) C.2.2.2.2 (gw Γ)  m _ hk_2) ?_
    refine g_aload_n C dX4_solve_21 0 rfl rfl ?_
    obtain ⟨r_3, m_3, hk_3, h⟩ := b2_some h
    refine g_vI (As := []) (a := 51) (ci := 4) C dX4_solve_22 mf_X4_bestEnd k_139 rfl (by decide) ⟨by decide, by decide⟩ rfl rfl (Nat.le_of_ble_eq_true rfl) (by decide) rfl (c_X4_bestEnd N (gl Γ) C.2.2.2.2 (gw Γ)  m_2 _ hk_3) ?_
    refine g_istore (lv' := [(5, .int r_3), (0, .ref (oa (gw Γ) 51)), (4, .int v4)]) C dX4_solve_25 (by decide) rfl ?_
    refine g_iload C dX4_solve_27 0 rfl ?_
    refine g_iconst (v := (-1 : Int32)) C dX4_solve_29 (by decide) ?_
    refine g_icmp_ne (tgt := 34) C dX4_solve_30 (by decide) (fun c_8 => ?_) (fun c_8 => ?_)
    · replace h := it_f c_8 h
      refine g_aload_n C dX4_solve_34 1 rfl rfl ?_
      refine g_dup C dX4_solve_35 rfl ?_
      refine g_getI (ci := 4) (j := 10) C dX4_solve_36 rfl (by decide) rfl inT_X4 (by decide) k_117 rfl rfl ?_
      refine g_iconst (v := (1 : Int32)) C dX4_solve_39 (by decide) ?_
      refine g_iadd C dX4_solve_40 ?_
      obtain ⟨m_4, e_4, h⟩ := wr_some h
      refine g_putI (ci := 4) (j := 10) C dX4_solve_41 rfl (by decide) rfl inT_X4 (by decide) k_117 tyX4 tyX4_ok nmX4 rfl rfl rfl rfl rfl (G_m e_4 ?_)
      refine g_aload_n C dX4_solve_44 1 rfl rfl ?_
      refine g_dup C dX4_solve_45 rfl ?_
      refine g_getI (ci := 4) (j := 11) C dX4_solve_46 rfl (by decide) rfl inT_X4 (by decide) k_118 rfl rfl ?_
      refine g_aload_n C dX4_solve_49 1 rfl rfl ?_
      refine g_getT (b := 56) (ci := 4) (j := 4) C dX4_solve_50 rfl (by decide) rfl inT_X4 (by decide) k_83 rfl rfl rfl rfl ?_
      refine g_iload C dX4_solve_53 0 rfl ?_
      obtain ⟨g_5, h⟩ := gd_some h
      refine g_iald C dX4_solve_55 (okA_of rfl rfl g_5) ?_
      refine g_iadd C dX4_solve_56 ?_
      obtain ⟨m_6, e_6, h⟩ := wr_some h
      refine g_putI (ci := 4) (j := 11) C dX4_solve_57 rfl (by decide) rfl inT_X4 (by decide) k_118 tyX4 tyX4_ok nmX4 rfl rfl rfl rfl rfl (G_m e_6 ?_)
      refine g_aload_n C dX4_solve_60 1 rfl rfl ?_
      refine g_iload C dX4_solve_61 0 rfl ?_
      obtain ⟨m_7, hk_7, h⟩ := b1_some h
      refine g_vV (As := [.int r_3]) (a := 51) (ci := 4) C dX4_solve_63 mf_X4_follow k_143 rfl (by decide) ⟨by decide, by decide⟩ rfl rfl (Nat.le_of_ble_eq_true rfl) (by decide) rfl (c_X4_follow N (gl Γ) C.2.2.2.2 (gw Γ) r_3 m_6 _ hk_7) ?_
      refine g_iinc (q := 2) (v := v4 + (1 : Int32)) (lv' := [(4, .int (v4 + (1 : Int32))), (5, .int r_3), (0, .ref (oa (gw Γ) 51))]) C dX4_solve_66 rfl rfl (by decide) rfl ?_
      refine g_goto (tgt := 10) C dX4_solve_69 (by decide) ?_
      refine g_sub [2, 0] rfl ?_
      exact hrec (v4 + (1 : Int32)) m_7 b h hE
    · replace h := it_t c_8 h
      obtain rfl := Option.some.inj h
      refine g_sub [] rfl ?_
      exact hE.2 _ rfl
theorem lt_X4_solve_10 (N : Nat) (Γ : Gc) (C : Cx Γ cX4_solve 6 RX4 (rmK 4 95 0)) : ∀ (n : Nat) (v4 : Int32) (m : Mem) (b : (Mem) ⊕ (Mem)), L_X4_solve_10 N n v4 m = some b → Ex_X4_solve_10 Γ 0 b → G Γ 6 0 m 10 [(0, .ref (oa (gw Γ) 51)), (4, .int v4)] [] := by
  intro n
  induction n with
  | zero =>
    intro v4 m b h
    have h9 : (none : Option ((Mem) ⊕ (Mem))) = some b := h
    cases h9
  | succ n ih => intro v4 m b h hE; exact t_X4_solve_10 N Γ C (L_X4_solve_10 N n) b hE ih v4 m h
set_option maxRecDepth 100000 in
set_option maxHeartbeats 4000000 in
theorem t_X4_solve (N : Nat) (Γ : Gc) (C : Cx Γ cX4_solve 6 RX4 (rmK 4 95 0)) (v1 : Nat) (v3 : Int32) (m : Mem) (b : Mem) (h : f_X4_solve N v1 v3 m = some b) (hE : EVn Γ 6 cX4_solve b) : G Γ 6 0 m 0 [(0, .ref (oa (gw Γ) 51)), (1, .ref (oa (gw Γ) v1)), (2, .ref (oa (gw Γ) 3)), (3, .int v3)] [] := by
  unfold f_X4_solve at h
  refine g_aload_n C dX4_solve_0 0 rfl rfl ?_
  refine g_aload_n C dX4_solve_1 1 rfl rfl ?_
  refine g_aload_n C dX4_solve_2 2 rfl rfl ?_
  refine g_iload_n C dX4_solve_3 3 rfl rfl ?_
  obtain ⟨m_1, hk_1, h⟩ := b1_some h
  refine g_vV (As := [.ref (oa (gw Γ) v1), .ref (oa (gw Γ) 3), .int v3]) (a := 51) (ci := 4) C dX4_solve_4 mf_X4_prepare k_131 rfl (by decide) ⟨by decide, by decide⟩ rfl rfl (Nat.le_of_ble_eq_true rfl) (by decide) rfl (c_X4_prepare N (gl Γ) C.2.2.2.2 (gw Γ) v1 v3 m _ hk_1) ?_
  refine g_iconst (v := (0 : Int32)) C dX4_solve_7 (by decide) ?_
  refine g_istore (lv' := [(4, .int (0 : Int32)), (0, .ref (oa (gw Γ) 51)), (1, .ref (oa (gw Γ) v1)), (2, .ref (oa (gw Γ) 3)), (3, .int v3)]) C dX4_solve_8 (by decide) rfl ?_
  obtain ⟨x9, hx, h⟩ := ob_some h
  refine g_sub [1, 0] rfl ?_
  refine lt_X4_solve_10 N Γ C N (0 : Int32) m_1 _ hx ?_
  refine ⟨?_, ?_⟩
  · intro  m_10 e9
    subst e9
    replace h : (some (m_10)) = some b := h
    obtain rfl := Option.some.inj h
    exact hE 72 _ dX4_solve_72
  · intro  m_10 e9
    subst e9
    replace h : (some (m_10)) = some b := h
    obtain rfl := Option.some.inj h
    exact hE 33 _ dX4_solve_33
theorem c_X4_solve (N : Nat) (l : Launch) (hst : l.stackTraces = false) (w : Om) (v1 : Nat) (v3 : Int32) (m : Mem) (o : Mem) (h : f_X4_solve N v1 v3 m = some o) : KV l yX4_solve cX4_solve 6 none 4 95 w [.ref (oa w 51), .ref (oa w v1), .ref (oa w 3), .int v3] m o := KV_of hst (by decide +kernel) RX4 rfl (Nat.le_of_ble_eq_true rfl) (fun Γ hw hl C hE => by
  subst hw; subst hl
  exact t_X4_solve N Γ C v1 v3 m o h hE)
set_option maxRecDepth 100000 in
set_option maxHeartbeats 4000000 in
theorem t_X5_merit (N : Nat) (Γ : Gc) (C : Cx Γ cX5_merit 3 RX5 (rmK 0 0 0)) (v1 : Int32) (v2 : Int32) (m : Mem) (b : Int32 × Mem) (h : f_X5_merit N v1 v2 m = some b) (hE : EIn Γ 3 cX5_merit b) : G Γ 3 0 m 0 [(0, .ref (oa (gw Γ) 38)), (1, .int v1), (2, .int v2)] [] := by
  unfold f_X5_merit at h
  refine g_iload_n C dX5_merit_0 1 rfl rfl ?_
  by_cases c_2 : v1 = (0 : Int32)
  · replace h := it_t c_2 h
    refine g_tin (tgt := 32) (off := 31) C dX5_merit_1 (by rw [c_2]; decide) (by rw [c_2]; decide) (by rw [c_2]; rfl) (by decide) ?_
    refine g_aload_n C dX5_merit_32 0 rfl rfl ?_
    refine g_getT (b := 43) (ci := 5) (j := 4) C dX5_merit_33 rfl (by decide) rfl inT_X5 (by decide) k_147 rfl rfl rfl rfl ?_
    refine g_iload_n C dX5_merit_36 2 rfl rfl ?_
    obtain ⟨g_1, h⟩ := gd_some h
    refine g_iald C dX5_merit_37 (okA_of rfl rfl g_1) ?_
    obtain rfl := Option.some.inj h
    exact hE 38 _ dX5_merit_38
  · replace h := it_f c_2 h
    by_cases c_4 : v1 = (1 : Int32)
    · replace h := it_t c_4 h
      refine g_tin (tgt := 39) (off := 38) C dX5_merit_1 (by rw [c_4]; decide) (by rw [c_4]; decide) (by rw [c_4]; rfl) (by decide) ?_
      refine g_aload_n C dX5_merit_39 0 rfl rfl ?_
      refine g_getT (b := 44) (ci := 5) (j := 5) C dX5_merit_40 rfl (by decide) rfl inT_X5 (by decide) k_148 rfl rfl rfl rfl ?_
      refine g_iload_n C dX5_merit_43 2 rfl rfl ?_
      obtain ⟨g_3, h⟩ := gd_some h
      refine g_iald C dX5_merit_44 (okA_of rfl rfl g_3) ?_
      obtain rfl := Option.some.inj h
      exact hE 45 _ dX5_merit_45
    · replace h := it_f c_4 h
      by_cases c_6 : v1 = (2 : Int32)
      · replace h := it_t c_6 h
        refine g_tin (tgt := 46) (off := 45) C dX5_merit_1 (by rw [c_6]; decide) (by rw [c_6]; decide) (by rw [c_6]; rfl) (by decide) ?_
        refine g_aload_n C dX5_merit_46 0 rfl rfl ?_
        refine g_getT (b := 45) (ci := 5) (j := 6) C dX5_merit_47 rfl (by decide) rfl inT_X5 (by decide) k_149 rfl rfl rfl rfl ?_
        refine g_iload_n C dX5_merit_50 2 rfl rfl ?_
        obtain ⟨g_5, h⟩ := gd_some h
        refine g_iald C dX5_merit_51 (okA_of rfl rfl g_5) ?_
        obtain rfl := Option.some.inj h
        exact hE 52 _ dX5_merit_52
      · replace h := it_f c_6 h
        by_cases c_8 : v1 = (3 : Int32)
        · replace h := it_t c_8 h
          refine g_tin (tgt := 53) (off := 52) C dX5_merit_1 (by rw [c_8]; decide) (by rw [c_8]; decide) (by rw [c_8]; rfl) (by decide) ?_
          refine g_aload_n C dX5_merit_53 0 rfl rfl ?_
          refine g_getT (b := 46) (ci := 5) (j := 7) C dX5_merit_54 rfl (by decide) rfl inT_X5 (by decide) k_150 rfl rfl rfl rfl ?_
          refine g_iload_n C dX5_merit_57 2 rfl rfl ?_
          obtain ⟨g_7, h⟩ := gd_some h
          refine g_iald C dX5_merit_58 (okA_of rfl rfl g_7) ?_
          refine g_ineg C dX5_merit_59 ?_
          obtain rfl := Option.some.inj h
          exact hE 60 _ dX5_merit_60
        · replace h := it_f c_8 h
          refine g_tout (tgt := 61) C dX5_merit_1 (sw4 c_2 c_4 c_6 c_8) (by decide) ?_
          refine g_iload_n C dX5_merit_61 2 rfl rfl ?_
          refine g_ineg C dX5_merit_62 ?_
          obtain rfl := Option.some.inj h
          exact hE 63 _ dX5_merit_63
theorem c_X5_merit (N : Nat) (l : Launch) (hst : l.stackTraces = false) (w : Om) (v1 : Int32) (v2 : Int32) (m : Mem) (o : Int32 × Mem) (h : f_X5_merit N v1 v2 m = some o) : KI l yX5_merit cX5_merit 3 (some .int) 0 0 w [.ref (oa w 38), .int v1, .int v2] m o.1 o.2 := KI_of hst (by decide +kernel) RX5 rfl (Nat.le_of_ble_eq_true rfl) (fun Γ hw hl C hE => by
  subst hw; subst hl
  exact t_X5_merit N Γ C v1 v2 m o h hE)
def Ex_X5_separation_2 (Γ : Gc) (cs : Nat) (b : (Mem) ⊕ (Int32 × Mem)) : Prop := (∀  (m' : Mem), b = .inl (m') → G Γ 4 cs m' 30 [] []) ∧ (∀ (y3 : Int32) (m' : Mem), b = .inr ((y3, m')) → G Γ 4 cs m' 22 [(3, .int y3)] [])
set_option maxRecDepth 100000 in
set_option maxHeartbeats 4000000 in
theorem t_X5_separation_2 (N : Nat) (Γ : Gc) (C : Cx Γ cX5_separation 4 RX5 (rmK 1 22 0)) (rc : Int32 → Int32 → Int32 → Mem → Option ((Mem) ⊕ (Int32 × Mem))) (b : (Mem) ⊕ (Int32 × Mem)) (hE : Ex_X5_separation_2 Γ 0 b) (hrec : ∀ (v1 : Int32) (v2 : Int32) (v3 : Int32) (m : Mem) (b : (Mem) ⊕ (Int32 × Mem)), rc v1 v2 v3 m = some b → Ex_X5_separation_2 Γ 0 b → G Γ 4 0 m 2 [(0, .ref (oa (gw Γ) 38)), (1, .int v1), (2, .int v2), (3, .int v3)] []) (v1 : Int32) (v2 : Int32) (v3 : Int32) (m : Mem) (h : T_X5_separation_2 N rc v1 v2 v3 m = some b) : G Γ 4 0 m 2 [(0, .ref (oa (gw Γ) 38)), (1, .int v1), (2, .int v2), (3, .int v3)] [] := by
  unfold T_X5_separation_2 at h
  refine g_iload_n C dX5_separation_2 3 rfl rfl ?_
  refine g_iconst (v := (4 : Int32)) C dX5_separation_3 (by decide) ?_
  refine g_icmp_ge (tgt := 30) C dX5_separation_4 (by decide) (fun c_4 => ?_) (fun c_4 => ?_)
  · replace h := it_t c_4 h
    obtain rfl := Option.some.inj h
    refine g_sub [] rfl ?_
    exact hE.1 _ rfl
  · replace h := it_f c_4 h
    refine g_aload_n C dX5_separation_7 0 rfl rfl ?_
    refine g_iload_n C dX5_separation_8 3 rfl rfl ?_
    refine g_iload_n C dX5_separation_9 1 rfl rfl ?_
    obtain ⟨r_1, m_1, hk_1, h⟩ := b2_some h
    refine g_vI (As := [.int v3, .int v1]) (a := 38) (ci := 5) C dX5_separation_10 mf_X5_merit k_151 rfl (by decide) ⟨by decide, by decide⟩ rfl rfl (Nat.le_of_ble_eq_true rfl) (by decide) rfl (c_X5_merit N (gl Γ) C.2.2.2.2 (gw Γ) v3 v1 m _ hk_1) ?_
    refine g_aload_n C dX5_separation_13 0 rfl rfl ?_
    refine g_iload_n C dX5_separation_14 3 rfl rfl ?_
    refine g_iload_n C dX5_separation_15 2 rfl rfl ?_
    obtain ⟨r_2, m_2, hk_2, h⟩ := b2_some h
    refine g_vI (As := [.int v3, .int v2]) (a := 38) (ci := 5) C dX5_separation_16 mf_X5_merit k_151 rfl (by decide) ⟨by decide, by decide⟩ rfl rfl (Nat.le_of_ble_eq_true rfl) (by decide) rfl (c_X5_merit N (gl Γ) C.2.2.2.2 (gw Γ) v3 v2 m_1 _ hk_2) ?_
    refine g_icmp_eq (tgt := 24) C dX5_separation_19 (by decide) (fun c_3 => ?_) (fun c_3 => ?_)
    · replace h := it_t c_3 h
      refine g_iinc (q := 3) (v := v3 + (1 : Int32)) (lv' := [(3, .int (v3 + (1 : Int32))), (0, .ref (oa (gw Γ) 38)), (1, .int v1), (2, .int v2)]) C dX5_separation_24 rfl rfl (by decide) rfl ?_
      refine g_goto (tgt := 2) C dX5_separation_27 (by decide) ?_
      refine g_sub [1, 2, 3, 0] rfl ?_
      exact hrec v1 v2 (v3 + (1 : Int32)) m_2 b h hE
    · replace h := it_f c_3 h
      obtain rfl := Option.some.inj h
      refine g_sub [3] rfl ?_
      exact hE.2 _ _ rfl
theorem lt_X5_separation_2 (N : Nat) (Γ : Gc) (C : Cx Γ cX5_separation 4 RX5 (rmK 1 22 0)) : ∀ (n : Nat) (v1 : Int32) (v2 : Int32) (v3 : Int32) (m : Mem) (b : (Mem) ⊕ (Int32 × Mem)), L_X5_separation_2 N n v1 v2 v3 m = some b → Ex_X5_separation_2 Γ 0 b → G Γ 4 0 m 2 [(0, .ref (oa (gw Γ) 38)), (1, .int v1), (2, .int v2), (3, .int v3)] [] := by
  intro n
  induction n with
  | zero =>
    intro v1 v2 v3 m b h
    have h9 : (none : Option ((Mem) ⊕ (Int32 × Mem))) = some b := h
    cases h9
  | succ n ih => intro v1 v2 v3 m b h hE; exact t_X5_separation_2 N Γ C (L_X5_separation_2 N n) b hE ih v1 v2 v3 m h
set_option maxRecDepth 100000 in
set_option maxHeartbeats 4000000 in
theorem t_X5_separation (N : Nat) (Γ : Gc) (C : Cx Γ cX5_separation 4 RX5 (rmK 1 22 0)) (v1 : Int32) (v2 : Int32) (m : Mem) (b : Int32 × Mem) (h : f_X5_separation N v1 v2 m = some b) (hE : EIn Γ 4 cX5_separation b) : G Γ 4 0 m 0 [(0, .ref (oa (gw Γ) 38)), (1, .int v1), (2, .int v2)] [] := by
  unfold f_X5_separation at h
  refine g_iconst (v := (0 : Int32)) C dX5_separation_0 (by decide) ?_
  refine g_istore_n (lv' := [(3, .int (0 : Int32)), (0, .ref (oa (gw Γ) 38)), (1, .int v1), (2, .int v2)]) C dX5_separation_1 rfl (by decide) rfl ?_
  obtain ⟨x9, hx, h⟩ := ob_some h
  refine g_sub [1, 2, 3, 0] rfl ?_
  refine lt_X5_separation_2 N Γ C N v1 v2 (0 : Int32) m _ hx ?_
  refine ⟨?_, ?_⟩
  · intro  m_5 e9
    subst e9
    replace h : (some ((4 : Int32), m_5)) = some b := h
    refine g_iconst (v := (4 : Int32)) C dX5_separation_30 (by decide) ?_
    obtain rfl := Option.some.inj h
    exact hE 31 _ dX5_separation_31
  · intro v3_5 m_5 e9
    subst e9
    replace h : (some (v3_5, m_5)) = some b := h
    refine g_iload_n C dX5_separation_22 0 rfl rfl ?_
    obtain rfl := Option.some.inj h
    exact hE 23 _ dX5_separation_23
theorem c_X5_separation (N : Nat) (l : Launch) (hst : l.stackTraces = false) (w : Om) (v1 : Int32) (v2 : Int32) (m : Mem) (o : Int32 × Mem) (h : f_X5_separation N v1 v2 m = some o) : KI l yX5_separation cX5_separation 4 (some .int) 1 22 w [.ref (oa w 38), .int v1, .int v2] m o.1 o.2 := KI_of hst (by decide +kernel) RX5 rfl (Nat.le_of_ble_eq_true rfl) (fun Γ hw hl C hE => by
  subst hw; subst hl
  exact t_X5_separation N Γ C v1 v2 m o h hE)
set_option maxRecDepth 100000 in
set_option maxHeartbeats 4000000 in
theorem t_X5_isBefore (N : Nat) (Γ : Gc) (C : Cx Γ cX5_isBefore 4 RX5 (rmK 2 45 0)) (v1 : Int32) (v2 : Int32) (m : Mem) (b : Int32 × Mem) (h : f_X5_isBefore N v1 v2 m = some b) (hE : EZn Γ 4 cX5_isBefore b) : G Γ 4 0 m 0 [(0, .ref (oa (gw Γ) 38)), (1, .int v1), (2, .int v2)] [] := by
  unfold f_X5_isBefore at h
  refine g_aload_n C dX5_isBefore_0 0 rfl rfl ?_
  refine g_iload_n C dX5_isBefore_1 1 rfl rfl ?_
  refine g_iload_n C dX5_isBefore_2 2 rfl rfl ?_
  obtain ⟨r_1, m_1, hk_1, h⟩ := b2_some h
  refine g_vI (As := [.int v1, .int v2]) (a := 38) (ci := 5) C dX5_isBefore_3 mf_X5_separation k_156 rfl (by decide) ⟨by decide, by decide⟩ rfl rfl (Nat.le_of_ble_eq_true rfl) (by decide) rfl (c_X5_separation N (gl Γ) C.2.2.2.2 (gw Γ) v1 v2 m _ hk_1) ?_
  refine g_istore_n (lv' := [(3, .int r_1), (0, .ref (oa (gw Γ) 38)), (1, .int v1), (2, .int v2)]) C dX5_isBefore_6 rfl (by decide) rfl ?_
  refine g_aload_n C dX5_isBefore_7 1 rfl rfl ?_
  refine g_iload_n C dX5_isBefore_8 0 rfl rfl ?_
  refine g_iload_n C dX5_isBefore_9 2 rfl rfl ?_
  obtain ⟨r_2, m_2, hk_2, h⟩ := b2_some h
  refine g_vI (As := [.int r_1, .int v1]) (a := 38) (ci := 5) C dX5_isBefore_10 mf_X5_merit k_151 rfl (by decide) ⟨by decide, by decide⟩ rfl rfl (Nat.le_of_ble_eq_true rfl) (by decide) rfl (c_X5_merit N (gl Γ) C.2.2.2.2 (gw Γ) r_1 v1 m_1 _ hk_2) ?_
  refine g_aload_n C dX5_isBefore_13 1 rfl rfl ?_
  refine g_iload_n C dX5_isBefore_14 0 rfl rfl ?_
  refine g_iload_n C dX5_isBefore_15 3 rfl rfl ?_
  obtain ⟨r_3, m_3, hk_3, h⟩ := b2_some h
  refine g_vI (As := [.int r_1, .int v2]) (a := 38) (ci := 5) C dX5_isBefore_16 mf_X5_merit k_151 rfl (by decide) ⟨by decide, by decide⟩ rfl rfl (Nat.le_of_ble_eq_true rfl) (by decide) rfl (c_X5_merit N (gl Γ) C.2.2.2.2 (gw Γ) r_1 v2 m_2 _ hk_3) ?_
  refine g_icmp_le (tgt := 26) C dX5_isBefore_19 (by decide) (fun c_4 => ?_) (fun c_4 => ?_)
  · replace h := it_t c_4 h
    refine g_iconst (v := (0 : Int32)) C dX5_isBefore_26 (by decide) ?_
    obtain rfl := Option.some.inj h
    exact hE 27 _ (show isB (0 : Int32) = true by decide) dX5_isBefore_27
  · replace h := it_f c_4 h
    refine g_iconst (v := (1 : Int32)) C dX5_isBefore_22 (by decide) ?_
    refine g_goto (tgt := 27) C dX5_isBefore_23 (by decide) ?_
    obtain rfl := Option.some.inj h
    exact hE 27 _ (show isB (1 : Int32) = true by decide) dX5_isBefore_27
theorem c_X5_isBefore (N : Nat) (l : Launch) (hst : l.stackTraces = false) (w : Om) (v1 : Int32) (v2 : Int32) (m : Mem) (o : Int32 × Mem) (h : f_X5_isBefore N v1 v2 m = some o) : KI l yX5_isBefore cX5_isBefore 4 (some .boolean) 2 45 w [.ref (oa w 38), .int v1, .int v2] m o.1 o.2 := KZ_of hst (by decide +kernel) RX5 rfl (Nat.le_of_ble_eq_true rfl) (fun Γ hw hl C hE => by
  subst hw; subst hl
  exact t_X5_isBefore N Γ C v1 v2 m o h hE)
def Ex_X5_insert_5 (Γ : Gc) (cs : Nat) (b : Int32 × Int32 × Mem) : Prop := (∀ (y1 : Int32) (y2 : Int32) (m' : Mem), b = (y1, y2, m') → G Γ 3 cs m' 45 [(0, .ref (oa (gw Γ) 38)), (1, .int y1), (2, .int y2)] [])
set_option maxRecDepth 100000 in
set_option maxHeartbeats 4000000 in
theorem t_X5_insert_5 (N : Nat) (Γ : Gc) (C : Cx Γ cX5_insert 3 RX5 (rmK 3 68 0)) (rc : Int32 → Int32 → Mem → Option (Int32 × Int32 × Mem)) (b : Int32 × Int32 × Mem) (hE : Ex_X5_insert_5 Γ 0 b) (hrec : ∀ (v1 : Int32) (v2 : Int32) (m : Mem) (b : Int32 × Int32 × Mem), rc v1 v2 m = some b → Ex_X5_insert_5 Γ 0 b → G Γ 3 0 m 5 [(0, .ref (oa (gw Γ) 38)), (1, .int v1), (2, .int v2)] []) (v1 : Int32) (v2 : Int32) (m : Mem) (h : T_X5_insert_5 N rc v1 v2 m = some b) : G Γ 3 0 m 5 [(0, .ref (oa (gw Γ) 38)), (1, .int v1), (2, .int v2)] [] := by
  unfold T_X5_insert_5 at h
  refine g_iload_n C dX5_insert_5 2 rfl rfl ?_
  refine g_if_le (tgt := 45) C dX5_insert_6 (by decide) (fun c_6 => ?_) (fun c_6 => ?_)
  · replace h := it_t c_6 h
    obtain rfl := Option.some.inj h
    refine g_sub [0, 1, 2] rfl ?_
    exact hE _ _ _ rfl
  · replace h := it_f c_6 h
    refine g_aload_n C dX5_insert_9 0 rfl rfl ?_
    refine g_iload_n C dX5_insert_10 1 rfl rfl ?_
    refine g_aload_n C dX5_insert_11 0 rfl rfl ?_
    refine g_getT (b := 47) (ci := 5) (j := 8) C dX5_insert_12 rfl (by decide) rfl inT_X5 (by decide) k_161 rfl rfl rfl rfl ?_
    refine g_iload_n C dX5_insert_15 2 rfl rfl ?_
    refine g_iconst (v := (1 : Int32)) C dX5_insert_16 (by decide) ?_
    refine g_isub C dX5_insert_17 ?_
    obtain ⟨g_1, h⟩ := gd_some h
    refine g_iald C dX5_insert_18 (okA_of rfl rfl g_1) ?_
    obtain ⟨r_2, m_2, hk_2, h⟩ := b2_some h
    refine g_vI (As := [.int v1, .int (gI m 47 (v2 - (1 : Int32)).toNatClampNeg)]) (a := 38) (ci := 5) C dX5_insert_19 mf_X5_isBefore k_162 rfl (by decide) ⟨by decide, by decide⟩ rfl rfl (Nat.le_of_ble_eq_true rfl) (by decide) rfl (c_X5_isBefore N (gl Γ) C.2.2.2.2 (gw Γ) v1 (gI m 47 (v2 - (1 : Int32)).toNatClampNeg) m _ hk_2) ?_
    refine g_if_eq (tgt := 45) C dX5_insert_22 (by decide) (fun c_5 => ?_) (fun c_5 => ?_)
    · replace h := it_t c_5 h
      obtain rfl := Option.some.inj h
      refine g_sub [0, 1, 2] rfl ?_
      exact hE _ _ _ rfl
    · replace h := it_f c_5 h
      refine g_aload_n C dX5_insert_25 0 rfl rfl ?_
      refine g_getT (b := 47) (ci := 5) (j := 8) C dX5_insert_26 rfl (by decide) rfl inT_X5 (by decide) k_161 rfl rfl rfl rfl ?_
      refine g_iload_n C dX5_insert_29 2 rfl rfl ?_
      refine g_aload_n C dX5_insert_30 0 rfl rfl ?_
      refine g_getT (b := 47) (ci := 5) (j := 8) C dX5_insert_31 rfl (by decide) rfl inT_X5 (by decide) k_161 rfl rfl rfl rfl ?_
      refine g_iload_n C dX5_insert_34 2 rfl rfl ?_
      refine g_iconst (v := (1 : Int32)) C dX5_insert_35 (by decide) ?_
      refine g_isub C dX5_insert_36 ?_
      refine g_iald C dX5_insert_37 (okA_of rfl rfl g_1) ?_
      obtain ⟨g_3, h⟩ := gd_some h
      obtain ⟨m_4, e_4, h⟩ := wr_some h
      refine g_iast C dX5_insert_38 (okA_of rfl rfl g_3) (G_m e_4 ?_)
      refine g_iinc (q := 2) (v := v2 + (-1 : Int32)) (lv' := [(2, .int (v2 + (-1 : Int32))), (0, .ref (oa (gw Γ) 38)), (1, .int v1)]) C dX5_insert_39 rfl rfl (by decide) rfl ?_
      refine g_goto (tgt := 5) C dX5_insert_42 (by decide) ?_
      refine g_sub [1, 2, 0] rfl ?_
      exact hrec v1 (v2 + (-1 : Int32)) m_4 b h hE
theorem lt_X5_insert_5 (N : Nat) (Γ : Gc) (C : Cx Γ cX5_insert 3 RX5 (rmK 3 68 0)) : ∀ (n : Nat) (v1 : Int32) (v2 : Int32) (m : Mem) (b : Int32 × Int32 × Mem), L_X5_insert_5 N n v1 v2 m = some b → Ex_X5_insert_5 Γ 0 b → G Γ 3 0 m 5 [(0, .ref (oa (gw Γ) 38)), (1, .int v1), (2, .int v2)] [] := by
  intro n
  induction n with
  | zero =>
    intro v1 v2 m b h
    have h9 : (none : Option (Int32 × Int32 × Mem)) = some b := h
    cases h9
  | succ n ih => intro v1 v2 m b h hE; exact t_X5_insert_5 N Γ C (L_X5_insert_5 N n) b hE ih v1 v2 m h
set_option maxRecDepth 100000 in
set_option maxHeartbeats 4000000 in
theorem t_X5_insert_45 (N : Nat) (Γ : Gc) (C : Cx Γ cX5_insert 3 RX5 (rmK 3 68 0)) (b : Mem) (hE : EVn Γ 3 cX5_insert b) (v1 : Int32) (v2 : Int32) (m : Mem) (h : B_X5_insert_45 N v1 v2 m = some b) : G Γ 3 0 m 45 [(0, .ref (oa (gw Γ) 38)), (1, .int v1), (2, .int v2)] [] := by
  unfold B_X5_insert_45 at h
  refine g_aload_n C dX5_insert_45 0 rfl rfl ?_
  refine g_getT (b := 47) (ci := 5) (j := 8) C dX5_insert_46 rfl (by decide) rfl inT_X5 (by decide) k_161 rfl rfl rfl rfl ?_
  refine g_iload_n C dX5_insert_49 2 rfl rfl ?_
  refine g_iload_n C dX5_insert_50 1 rfl rfl ?_
  obtain ⟨g_8, h⟩ := gd_some h
  obtain ⟨m_9, e_9, h⟩ := wr_some h
  refine g_iast C dX5_insert_51 (okA_of rfl rfl g_8) (G_m e_9 ?_)
  refine g_aload_n C dX5_insert_52 0 rfl rfl ?_
  refine g_dup C dX5_insert_53 rfl ?_
  refine g_getI (ci := 5) (j := 9) C dX5_insert_54 rfl (by decide) rfl inT_X5 (by decide) k_160 rfl rfl ?_
  refine g_iconst (v := (1 : Int32)) C dX5_insert_57 (by decide) ?_
  refine g_iadd C dX5_insert_58 ?_
  obtain ⟨m_10, e_10, h⟩ := wr_some h
  refine g_putI (ci := 5) (j := 9) C dX5_insert_59 rfl (by decide) rfl inT_X5 (by decide) k_160 tyX5 tyX5_ok nmX5 rfl rfl rfl rfl rfl (G_m e_10 ?_)
  obtain rfl := Option.some.inj h
  exact hE 62 _ dX5_insert_62
set_option maxRecDepth 100000 in
set_option maxHeartbeats 4000000 in
theorem t_X5_insert (N : Nat) (Γ : Gc) (C : Cx Γ cX5_insert 3 RX5 (rmK 3 68 0)) (v1 : Int32) (m : Mem) (b : Mem) (h : f_X5_insert N v1 m = some b) (hE : EVn Γ 3 cX5_insert b) : G Γ 3 0 m 0 [(0, .ref (oa (gw Γ) 38)), (1, .int v1)] [] := by
  unfold f_X5_insert at h
  refine g_aload_n C dX5_insert_0 0 rfl rfl ?_
  refine g_getI (ci := 5) (j := 9) C dX5_insert_1 rfl (by decide) rfl inT_X5 (by decide) k_160 rfl rfl ?_
  refine g_istore_n (lv' := [(2, .int (gI m 38 9)), (0, .ref (oa (gw Γ) 38)), (1, .int v1)]) C dX5_insert_4 rfl (by decide) rfl ?_
  obtain ⟨v1_7, v2_7, m_7, hx, h⟩ := l3_some h
  refine g_sub [1, 2, 0] rfl ?_
  refine lt_X5_insert_5 N Γ C N v1 (gI m 38 9) m _ hx ?_
  intro z1 z2 m9 e9
  cases e9
  refine g_sub [0, 1, 2] rfl ?_
  exact t_X5_insert_45 N Γ C b hE v1_7 v2_7 m_7 h
theorem c_X5_insert (N : Nat) (l : Launch) (hst : l.stackTraces = false) (w : Om) (v1 : Int32) (m : Mem) (o : Mem) (h : f_X5_insert N v1 m = some o) : KV l yX5_insert cX5_insert 3 none 3 68 w [.ref (oa w 38), .int v1] m o := KV_of hst (by decide +kernel) RX5 rfl (Nat.le_of_ble_eq_true rfl) (fun Γ hw hl C hE => by
  subst hw; subst hl
  exact t_X5_insert N Γ C v1 m o h hE)
set_option maxRecDepth 100000 in
set_option maxHeartbeats 4000000 in
theorem t_X5_isRanked (N : Nat) (Γ : Gc) (C : Cx Γ cX5_isRanked 2 RX5 (rmK 0 0 0)) (v1 : Int32) (m : Mem) (b : Int32 × Mem) (h : f_X5_isRanked N v1 m = some b) (hE : EZn Γ 2 cX5_isRanked b) : G Γ 2 0 m 0 [(0, .ref (oa (gw Γ) 38)), (1, .int v1)] [] := by
  unfold f_X5_isRanked at h
  refine g_aload_n C dX5_isRanked_0 0 rfl rfl ?_
  refine g_getT (b := 42) (ci := 5) (j := 3) C dX5_isRanked_1 rfl (by decide) rfl inT_X5 (by decide) k_166 rfl rfl rfl rfl ?_
  refine g_iload_n C dX5_isRanked_4 1 rfl rfl ?_
  obtain ⟨g_1, h⟩ := gd_some h
  refine g_iald C dX5_isRanked_5 (okA_of rfl rfl g_1) ?_
  refine g_if_le (tgt := 13) C dX5_isRanked_6 (by decide) (fun c_2 => ?_) (fun c_2 => ?_)
  · replace h := it_t c_2 h
    refine g_iconst (v := (0 : Int32)) C dX5_isRanked_13 (by decide) ?_
    obtain rfl := Option.some.inj h
    exact hE 14 _ (show isB (0 : Int32) = true by decide) dX5_isRanked_14
  · replace h := it_f c_2 h
    refine g_iconst (v := (1 : Int32)) C dX5_isRanked_9 (by decide) ?_
    refine g_goto (tgt := 14) C dX5_isRanked_10 (by decide) ?_
    obtain rfl := Option.some.inj h
    exact hE 14 _ (show isB (1 : Int32) = true by decide) dX5_isRanked_14
theorem c_X5_isRanked (N : Nat) (l : Launch) (hst : l.stackTraces = false) (w : Om) (v1 : Int32) (m : Mem) (o : Int32 × Mem) (h : f_X5_isRanked N v1 m = some o) : KI l yX5_isRanked cX5_isRanked 2 (some .boolean) 0 0 w [.ref (oa w 38), .int v1] m o.1 o.2 := KZ_of hst (by decide +kernel) RX5 rfl (Nat.le_of_ble_eq_true rfl) (fun Γ hw hl C hE => by
  subst hw; subst hl
  exact t_X5_isRanked N Γ C v1 m o h hE)
set_option maxRecDepth 100000 in
set_option maxHeartbeats 4000000 in
theorem t_J9_floorDiv_7cf53 (N : Nat) (Γ : Gc) (C : Cx Γ cJ9_floorDiv_7cf53 3 RJ9 (rmK 0 0 0)) (v0 : Int32) (v1 : Int32) (m : Mem) (b : Int32 × Mem) (h : f_J9_floorDiv_7cf53 N v0 v1 m = some b) (hE : EIn Γ 3 cJ9_floorDiv_7cf53 b) : G Γ 3 0 m 0 [(0, .int v0), (1, .int v1)] [] := by
  unfold f_J9_floorDiv_7cf53 at h
  refine g_iload_n C dJ9_floorDiv_7cf53_0 0 rfl rfl ?_
  refine g_iload_n C dJ9_floorDiv_7cf53_1 1 rfl rfl ?_
  obtain ⟨g_1, h⟩ := gd_some h
  refine g_idiv C dJ9_floorDiv_7cf53_2 (ne_of_g g_1) ?_
  refine g_istore_n (lv' := [(2, .int (v0 / v1)), (0, .int v0), (1, .int v1)]) C dJ9_floorDiv_7cf53_3 rfl (by decide) rfl ?_
  refine g_iload_n C dJ9_floorDiv_7cf53_4 1 rfl rfl ?_
  refine g_iload_n C dJ9_floorDiv_7cf53_5 2 rfl rfl ?_
  refine g_ixor C dJ9_floorDiv_7cf53_6 ?_
  refine g_if_ge (tgt := 21) C dJ9_floorDiv_7cf53_7 (by decide) (fun c_3 => ?_) (fun c_3 => ?_)
  · replace h := it_t c_3 h
    refine g_iload_n C dJ9_floorDiv_7cf53_21 0 rfl rfl ?_
    obtain rfl := Option.some.inj h
    exact hE 22 _ dJ9_floorDiv_7cf53_22
  · replace h := it_f c_3 h
    refine g_iload_n C dJ9_floorDiv_7cf53_10 0 rfl rfl ?_
    refine g_iload_n C dJ9_floorDiv_7cf53_11 2 rfl rfl ?_
    refine g_imul C dJ9_floorDiv_7cf53_12 ?_
    refine g_iload_n C dJ9_floorDiv_7cf53_13 1 rfl rfl ?_
    refine g_icmp_eq (tgt := 21) C dJ9_floorDiv_7cf53_14 (by decide) (fun c_2 => ?_) (fun c_2 => ?_)
    · replace h := it_t c_2 h
      refine g_iload_n C dJ9_floorDiv_7cf53_21 0 rfl rfl ?_
      obtain rfl := Option.some.inj h
      exact hE 22 _ dJ9_floorDiv_7cf53_22
    · replace h := it_f c_2 h
      refine g_iload_n C dJ9_floorDiv_7cf53_17 0 rfl rfl ?_
      refine g_iconst (v := (1 : Int32)) C dJ9_floorDiv_7cf53_18 (by decide) ?_
      refine g_isub C dJ9_floorDiv_7cf53_19 ?_
      obtain rfl := Option.some.inj h
      exact hE 20 _ dJ9_floorDiv_7cf53_20
theorem c_J9_floorDiv_7cf53 (N : Nat) (l : Launch) (hst : l.stackTraces = false) (w : Om) (v0 : Int32) (v1 : Int32) (m : Mem) (o : Int32 × Mem) (h : f_J9_floorDiv_7cf53 N v0 v1 m = some o) : KI l yJ9_floorDiv_7cf53 cJ9_floorDiv_7cf53 3 (some .int) 0 0 w [.int v0, .int v1] m o.1 o.2 := KIF_of hst (by decide +kernel) RJ9 rfl (Nat.le_of_ble_eq_true rfl) (fun Γ hw hl C hE => by
  subst hw; subst hl
  exact t_J9_floorDiv_7cf53 N Γ C v0 v1 m o h hE)
set_option maxRecDepth 100000 in
set_option maxHeartbeats 4000000 in
theorem t_X5_adjustedScore (N : Nat) (Γ : Gc) (C : Cx Γ cX5_adjustedScore 4 RX5 (rmK 1 22 0)) (v1 : Int32) (v2 : Int32) (m : Mem) (b : Int32 × Mem) (h : f_X5_adjustedScore N v1 v2 m = some b) (hE : EIn Γ 4 cX5_adjustedScore b) : G Γ 4 0 m 0 [(0, .ref (oa (gw Γ) 38)), (1, .int v1), (2, .int v2)] [] := by
  unfold f_X5_adjustedScore at h
  refine g_aload_n C dX5_adjustedScore_0 0 rfl rfl ?_
  refine g_getT (b := 39) (ci := 5) (j := 0) C dX5_adjustedScore_1 rfl (by decide) rfl inT_X5 (by decide) k_167 rfl rfl rfl rfl ?_
  refine g_iload_n C dX5_adjustedScore_4 1 rfl rfl ?_
  obtain ⟨g_1, h⟩ := gd_some h
  refine g_iald C dX5_adjustedScore_5 (okA_of rfl rfl g_1) ?_
  refine g_istore_n (lv' := [(3, .int (gI m 39 v1.toNatClampNeg)), (0, .ref (oa (gw Γ) 38)), (1, .int v1), (2, .int v2)]) C dX5_adjustedScore_6 rfl (by decide) rfl ?_
  refine g_aload_n C dX5_adjustedScore_7 1 rfl rfl ?_
  refine g_getT (b := 41) (ci := 5) (j := 2) C dX5_adjustedScore_8 rfl (by decide) rfl inT_X5 (by decide) k_168 rfl rfl rfl rfl ?_
  refine g_iload_n C dX5_adjustedScore_11 2 rfl rfl ?_
  refine g_iald C dX5_adjustedScore_12 (okA_of rfl rfl g_1) ?_
  refine g_if_ne (tgt := 19) C dX5_adjustedScore_13 (by decide) (fun c_3 => ?_) (fun c_3 => ?_)
  · replace h := it_f c_3 h
    refine g_ldc (v := (50000 : Int32)) C dX5_adjustedScore_19 k_169 ?_
    refine g_sipush (v := (20000 : Int32)) C dX5_adjustedScore_21 (by decide) ?_
    refine g_iload_n C dX5_adjustedScore_24 0 rfl rfl ?_
    refine g_imul C dX5_adjustedScore_25 ?_
    refine g_iload_n C dX5_adjustedScore_26 0 rfl rfl ?_
    refine g_iload_n C dX5_adjustedScore_27 3 rfl rfl ?_
    refine g_imul C dX5_adjustedScore_28 ?_
    refine g_aload_n C dX5_adjustedScore_29 1 rfl rfl ?_
    refine g_getT (b := 40) (ci := 5) (j := 1) C dX5_adjustedScore_30 rfl (by decide) rfl inT_X5 (by decide) k_170 rfl rfl rfl rfl ?_
    refine g_iload_n C dX5_adjustedScore_33 2 rfl rfl ?_
    refine g_iald C dX5_adjustedScore_34 (okA_of rfl rfl g_1) ?_
    refine g_isub C dX5_adjustedScore_35 ?_
    refine g_imul C dX5_adjustedScore_36 ?_
    refine g_aload_n C dX5_adjustedScore_37 1 rfl rfl ?_
    refine g_getT (b := 41) (ci := 5) (j := 2) C dX5_adjustedScore_38 rfl (by decide) rfl inT_X5 (by decide) k_168 rfl rfl rfl rfl ?_
    refine g_iload_n C dX5_adjustedScore_41 2 rfl rfl ?_
    refine g_iald C dX5_adjustedScore_42 (okA_of rfl rfl g_1) ?_
    obtain ⟨r_2, m_2, hk_2, h⟩ := b2_some h
    refine g_sI (As := [.int (((20000 : Int32) * (gI m 39 v1.toNatClampNeg)) * (((gI m 39 v1.toNatClampNeg) * v2) - (gI m 40 v1.toNatClampNeg))), .int (gI m 41 v1.toNatClampNeg)]) C dX5_adjustedScore_43 mf_J9_floorDiv_7cf53 k_171 ⟨by decide, by decide⟩ rfl rfl (Nat.le_of_ble_eq_true rfl) (by decide) (c_J9_floorDiv_7cf53 N (gl Γ) C.2.2.2.2 (gw Γ) (((20000 : Int32) * (gI m 39 v1.toNatClampNeg)) * (((gI m 39 v1.toNatClampNeg) * v2) - (gI m 40 v1.toNatClampNeg))) (gI m 41 v1.toNatClampNeg) m _ hk_2) ?_
    refine g_iadd C dX5_adjustedScore_46 ?_
    obtain rfl := Option.some.inj h
    exact hE 47 _ dX5_adjustedScore_47
  · replace h := it_t c_3 h
    refine g_ldc (v := (50000 : Int32)) C dX5_adjustedScore_16 k_169 ?_
    obtain rfl := Option.some.inj h
    exact hE 18 _ dX5_adjustedScore_18
theorem c_X5_adjustedScore (N : Nat) (l : Launch) (hst : l.stackTraces = false) (w : Om) (v1 : Int32) (v2 : Int32) (m : Mem) (o : Int32 × Mem) (h : f_X5_adjustedScore N v1 v2 m = some o) : KI l yX5_adjustedScore cX5_adjustedScore 4 (some .int) 1 22 w [.ref (oa w 38), .int v1, .int v2] m o.1 o.2 := KI_of hst (by decide +kernel) RX5 rfl (Nat.le_of_ble_eq_true rfl) (fun Γ hw hl C hE => by
  subst hw; subst hl
  exact t_X5_adjustedScore N Γ C v1 v2 m o h hE)
set_option maxRecDepth 100000 in
set_option maxHeartbeats 4000000 in
theorem t_X7_scoreAt (N : Nat) (Γ : Gc) (C : Cx Γ cX7_scoreAt 3 RX7 (rmK 1 21 0)) (v1 : Int32) (v2 : Int32) (m : Mem) (b : Int32 × Mem) (h : f_X7_scoreAt N v1 v2 m = some b) (hE : EIn Γ 3 cX7_scoreAt b) : G Γ 3 0 m 0 [(0, .ref (oa (gw Γ) 3)), (1, .int v1), (2, .int v2)] [] := by
  unfold f_X7_scoreAt at h
  refine g_aload_n C dX7_scoreAt_0 0 rfl rfl ?_
  refine g_getT (b := 4) (ci := 7) (j := 0) C dX7_scoreAt_1 rfl (by decide) rfl inT_X7 (by decide) k_44 rfl rfl rfl rfl ?_
  refine g_iload_n C dX7_scoreAt_4 1 rfl rfl ?_
  refine g_iload_n C dX7_scoreAt_5 2 rfl rfl ?_
  obtain ⟨r_1, m_1, hk_1, h⟩ := b2_some h
  refine g_nI (As := [.int v1, .int v2]) C dX7_scoreAt_6 mf_X9_cell (List.mem_of_getElem? (i := 0) rfl) ⟨by decide, by decide⟩ rfl rfl (Nat.le_of_ble_eq_true rfl) (by decide) (c_X9_cell N (gl Γ) C.2.2.2.2 (gw Γ) v1 v2 m _ hk_1) ?_
  obtain ⟨g_2, h⟩ := gd_some h
  refine g_iald C dX7_scoreAt_9 (okA_of rfl rfl g_2) ?_
  obtain rfl := Option.some.inj h
  exact hE 10 _ dX7_scoreAt_10
theorem c_X7_scoreAt (N : Nat) (l : Launch) (hst : l.stackTraces = false) (w : Om) (v1 : Int32) (v2 : Int32) (m : Mem) (o : Int32 × Mem) (h : f_X7_scoreAt N v1 v2 m = some o) : KI l yX7_scoreAt cX7_scoreAt 3 (some .int) 1 21 w [.ref (oa w 3), .int v1, .int v2] m o.1 o.2 := KI_of hst (by decide +kernel) RX7 rfl (Nat.le_of_ble_eq_true rfl) (fun Γ hw hl C hE => by
  subst hw; subst hl
  exact t_X7_scoreAt N Γ C v1 v2 m o h hE)
set_option maxRecDepth 100000 in
set_option maxHeartbeats 4000000 in
theorem t_X7_hasScore (N : Nat) (Γ : Gc) (C : Cx Γ cX7_hasScore 3 RX7 (rmK 2 43 0)) (v1 : Int32) (v2 : Int32) (m : Mem) (b : Int32 × Mem) (h : f_X7_hasScore N v1 v2 m = some b) (hE : EZn Γ 3 cX7_hasScore b) : G Γ 3 0 m 0 [(0, .ref (oa (gw Γ) 3)), (1, .int v1), (2, .int v2)] [] := by
  unfold f_X7_hasScore at h
  refine g_aload_n C dX7_hasScore_0 0 rfl rfl ?_
  refine g_iload_n C dX7_hasScore_1 1 rfl rfl ?_
  refine g_iload_n C dX7_hasScore_2 2 rfl rfl ?_
  obtain ⟨r_1, m_1, hk_1, h⟩ := b2_some h
  refine g_vI (As := [.int v1, .int v2]) (a := 3) (ci := 7) C dX7_hasScore_3 mf_X7_scoreAt k_174 rfl (by decide) ⟨by decide, by decide⟩ rfl rfl (Nat.le_of_ble_eq_true rfl) (by decide) rfl (c_X7_scoreAt N (gl Γ) C.2.2.2.2 (gw Γ) v1 v2 m _ hk_1) ?_
  refine g_if_le (tgt := 13) C dX7_hasScore_6 (by decide) (fun c_2 => ?_) (fun c_2 => ?_)
  · replace h := it_t c_2 h
    refine g_iconst (v := (0 : Int32)) C dX7_hasScore_13 (by decide) ?_
    obtain rfl := Option.some.inj h
    exact hE 14 _ (show isB (0 : Int32) = true by decide) dX7_hasScore_14
  · replace h := it_f c_2 h
    refine g_iconst (v := (1 : Int32)) C dX7_hasScore_9 (by decide) ?_
    refine g_goto (tgt := 14) C dX7_hasScore_10 (by decide) ?_
    obtain rfl := Option.some.inj h
    exact hE 14 _ (show isB (1 : Int32) = true by decide) dX7_hasScore_14
theorem c_X7_hasScore (N : Nat) (l : Launch) (hst : l.stackTraces = false) (w : Om) (v1 : Int32) (v2 : Int32) (m : Mem) (o : Int32 × Mem) (h : f_X7_hasScore N v1 v2 m = some o) : KI l yX7_hasScore cX7_hasScore 3 (some .boolean) 2 43 w [.ref (oa w 3), .int v1, .int v2] m o.1 o.2 := KZ_of hst (by decide +kernel) RX7 rfl (Nat.le_of_ble_eq_true rfl) (fun Γ hw hl C hE => by
  subst hw; subst hl
  exact t_X7_hasScore N Γ C v1 v2 m o h hE)
def Ex_X5_measureProposal_15 (Γ : Gc) (cs : Nat) (b : Int32 × Int32 × Int32 × Int32 × Int32 × Mem) : Prop := (∀ (y2 : Int32) (y3 : Int32) (y4 : Int32) (y5 : Int32) (y6 : Int32) (m' : Mem), b = (y2, y3, y4, y5, y6, m') → G Γ 9 cs m' 89 [(0, .ref (oa (gw Γ) 38)), (2, .int y2), (3, .int y3), (4, .int y4), (5, .int y5), (6, .int y6)] [])
set_option maxRecDepth 100000 in
set_option maxHeartbeats 4000000 in
theorem t_X5_measureProposal_80 (N : Nat) (Γ : Gc) (C : Cx Γ cX5_measureProposal 9 RX5 (rmK 3 65 0)) (rc : Int32 → Int32 → Int32 → Int32 → Int32 → Int32 → Mem → Option (Int32 × Int32 × Int32 × Int32 × Int32 × Mem)) (b : Int32 × Int32 × Int32 × Int32 × Int32 × Mem) (hE : Ex_X5_measureProposal_15 Γ 0 b) (hrec : ∀ (v2 : Int32) (v3 : Int32) (v4 : Int32) (v5 : Int32) (v6 : Int32) (v7 : Int32) (m : Mem) (b : Int32 × Int32 × Int32 × Int32 × Int32 × Mem), rc v2 v3 v4 v5 v6 v7 m = some b → Ex_X5_measureProposal_15 Γ 0 b → G Γ 9 0 m 15 [(0, .ref (oa (gw Γ) 38)), (1, .ref (oa (gw Γ) 3)), (2, .int v2), (3, .int v3), (4, .int v4), (5, .int v5), (6, .int v6), (7, .int v7)] []) (v2 : Int32) (v3 : Int32) (v4 : Int32) (v5 : Int32) (v7 : Int32) (s0 : Int32) (s1 : Int32) (m : Mem) (h : B_X5_measureProposal_80 N rc v2 v3 v4 v5 v7 s0 s1 m = some b) : G Γ 9 0 m 80 [(0, .ref (oa (gw Γ) 38)), (1, .ref (oa (gw Γ) 3)), (2, .int v2), (3, .int v3), (4, .int v4), (5, .int v5), (7, .int v7)] [.int s0, .int s1] := by
  unfold B_X5_measureProposal_80 at h
  refine g_iadd C dX5_measureProposal_80 ?_
  refine g_istore (lv' := [(6, .int (s1 + s0)), (0, .ref (oa (gw Γ) 38)), (1, .ref (oa (gw Γ) 3)), (2, .int v2), (3, .int v3), (4, .int v4), (5, .int v5), (7, .int v7)]) C dX5_measureProposal_81 (by decide) rfl ?_
  refine g_iinc (q := 7) (v := v7 + (1 : Int32)) (lv' := [(7, .int (v7 + (1 : Int32))), (6, .int (s1 + s0)), (0, .ref (oa (gw Γ) 38)), (1, .ref (oa (gw Γ) 3)), (2, .int v2), (3, .int v3), (4, .int v4), (5, .int v5)]) C dX5_measureProposal_83 rfl rfl (by decide) rfl ?_
  refine g_goto (tgt := 15) C dX5_measureProposal_86 (by decide) ?_
  refine g_sub [2, 3, 4, 5, 6, 7, 1, 0] rfl ?_
  exact hrec v2 v3 v4 v5 (s1 + s0) (v7 + (1 : Int32)) m b h hE
set_option maxRecDepth 100000 in
set_option maxHeartbeats 4000000 in
theorem t_X5_measureProposal_15 (N : Nat) (Γ : Gc) (C : Cx Γ cX5_measureProposal 9 RX5 (rmK 3 65 0)) (rc : Int32 → Int32 → Int32 → Int32 → Int32 → Int32 → Mem → Option (Int32 × Int32 × Int32 × Int32 × Int32 × Mem)) (b : Int32 × Int32 × Int32 × Int32 × Int32 × Mem) (hE : Ex_X5_measureProposal_15 Γ 0 b) (hrec : ∀ (v2 : Int32) (v3 : Int32) (v4 : Int32) (v5 : Int32) (v6 : Int32) (v7 : Int32) (m : Mem) (b : Int32 × Int32 × Int32 × Int32 × Int32 × Mem), rc v2 v3 v4 v5 v6 v7 m = some b → Ex_X5_measureProposal_15 Γ 0 b → G Γ 9 0 m 15 [(0, .ref (oa (gw Γ) 38)), (1, .ref (oa (gw Γ) 3)), (2, .int v2), (3, .int v3), (4, .int v4), (5, .int v5), (6, .int v6), (7, .int v7)] []) (v2 : Int32) (v3 : Int32) (v4 : Int32) (v5 : Int32) (v6 : Int32) (v7 : Int32) (m : Mem) (h : T_X5_measureProposal_15 N rc v2 v3 v4 v5 v6 v7 m = some b) : G Γ 9 0 m 15 [(0, .ref (oa (gw Γ) 38)), (1, .ref (oa (gw Γ) 3)), (2, .int v2), (3, .int v3), (4, .int v4), (5, .int v5), (6, .int v6), (7, .int v7)] [] := by
  unfold T_X5_measureProposal_15 at h
  refine g_iload C dX5_measureProposal_15 7 rfl ?_
  refine g_bipush (v := (12 : Int32)) C dX5_measureProposal_17 (by decide) ?_
  refine g_icmp_ge (tgt := 89) C dX5_measureProposal_19 (by decide) (fun c_6 => ?_) (fun c_6 => ?_)
  · replace h := it_t c_6 h
    obtain rfl := Option.some.inj h
    refine g_sub [0, 2, 3, 4, 5, 6] rfl ?_
    exact hE _ _ _ _ _ _ rfl
  · replace h := it_f c_6 h
    refine g_aload_n C dX5_measureProposal_22 1 rfl rfl ?_
    refine g_iload C dX5_measureProposal_23 7 rfl ?_
    refine g_iload_n C dX5_measureProposal_25 2 rfl rfl ?_
    obtain ⟨r_1, m_1, hk_1, h⟩ := b2_some h
    refine g_vI (As := [.int v7, .int v2]) (a := 3) (ci := 7) C dX5_measureProposal_26 mf_X7_hasScore k_178 rfl (by decide) ⟨by decide, by decide⟩ rfl rfl (Nat.le_of_ble_eq_true rfl) (by decide) rfl (c_X7_hasScore N (gl Γ) C.2.2.2.2 (gw Γ) v7 v2 m _ hk_1) ?_
    refine g_if_eq (tgt := 83) C dX5_measureProposal_29 (by decide) (fun c_5 => ?_) (fun c_5 => ?_)
    · replace h := it_t c_5 h
      refine g_iinc (q := 7) (v := v7 + (1 : Int32)) (lv' := [(7, .int (v7 + (1 : Int32))), (0, .ref (oa (gw Γ) 38)), (1, .ref (oa (gw Γ) 3)), (2, .int v2), (3, .int v3), (4, .int v4), (5, .int v5), (6, .int v6)]) C dX5_measureProposal_83 rfl rfl (by decide) rfl ?_
      refine g_goto (tgt := 15) C dX5_measureProposal_86 (by decide) ?_
      refine g_sub [1, 2, 3, 4, 5, 6, 7, 0] rfl ?_
      exact hrec v2 v3 v4 v5 v6 (v7 + (1 : Int32)) m_1 b h hE
    · replace h := it_f c_5 h
      refine g_aload_n C dX5_measureProposal_32 1 rfl rfl ?_
      refine g_iload C dX5_measureProposal_33 7 rfl ?_
      refine g_iload_n C dX5_measureProposal_35 2 rfl rfl ?_
      obtain ⟨r_2, m_2, hk_2, h⟩ := b2_some h
      refine g_vI (As := [.int v7, .int v2]) (a := 3) (ci := 7) C dX5_measureProposal_36 mf_X7_scoreAt k_182 rfl (by decide) ⟨by decide, by decide⟩ rfl rfl (Nat.le_of_ble_eq_true rfl) (by decide) rfl (c_X7_scoreAt N (gl Γ) C.2.2.2.2 (gw Γ) v7 v2 m_1 _ hk_2) ?_
      refine g_istore (lv' := [(8, .int r_2), (0, .ref (oa (gw Γ) 38)), (1, .ref (oa (gw Γ) 3)), (2, .int v2), (3, .int v3), (4, .int v4), (5, .int v5), (6, .int v6), (7, .int v7)]) C dX5_measureProposal_39 (by decide) rfl ?_
      refine g_iinc (q := 4) (v := v3 + (1 : Int32)) (lv' := [(3, .int (v3 + (1 : Int32))), (8, .int r_2), (0, .ref (oa (gw Γ) 38)), (1, .ref (oa (gw Γ) 3)), (2, .int v2), (4, .int v4), (5, .int v5), (6, .int v6), (7, .int v7)]) C dX5_measureProposal_41 rfl rfl (by decide) rfl ?_
      refine g_iload C dX5_measureProposal_44 5 rfl ?_
      refine g_aload_n C dX5_measureProposal_46 2 rfl rfl ?_
      refine g_iload C dX5_measureProposal_47 8 rfl ?_
      refine g_iload C dX5_measureProposal_49 1 rfl ?_
      obtain ⟨r_3, m_3, hk_3, h⟩ := b2_some h
      refine g_vI (As := [.int v7, .int r_2]) (a := 38) (ci := 5) C dX5_measureProposal_51 mf_X5_adjustedScore k_183 rfl (by decide) ⟨by decide, by decide⟩ rfl rfl (Nat.le_of_ble_eq_true rfl) (by decide) rfl (c_X5_adjustedScore N (gl Γ) C.2.2.2.2 (gw Γ) v7 r_2 m_2 _ hk_3) ?_
      refine g_iadd C dX5_measureProposal_54 ?_
      refine g_istore (lv' := [(4, .int (v4 + r_3)), (3, .int (v3 + (1 : Int32))), (8, .int r_2), (0, .ref (oa (gw Γ) 38)), (1, .ref (oa (gw Γ) 3)), (2, .int v2), (5, .int v5), (6, .int v6), (7, .int v7)]) C dX5_measureProposal_55 (by decide) rfl ?_
      refine g_iload C dX5_measureProposal_57 6 rfl ?_
      refine g_iload C dX5_measureProposal_59 2 rfl ?_
      refine g_min C dX5_measureProposal_61 k_187 k_60 k_61 k_62 (by decide) (Nat.le_of_ble_eq_true rfl) (by decide) ?_
      refine g_istore (lv' := [(5, .int (if r_2 < v5 then r_2 else v5)), (4, .int (v4 + r_3)), (3, .int (v3 + (1 : Int32))), (8, .int r_2), (0, .ref (oa (gw Γ) 38)), (1, .ref (oa (gw Γ) 3)), (2, .int v2), (6, .int v6), (7, .int v7)]) C dX5_measureProposal_64 (by decide) rfl ?_
      refine g_iload C dX5_measureProposal_66 7 rfl ?_
      refine g_iload C dX5_measureProposal_68 3 rfl ?_
      refine g_bipush (v := (80 : Int32)) C dX5_measureProposal_70 (by decide) ?_
      refine g_icmp_lt (tgt := 79) C dX5_measureProposal_72 (by decide) (fun c_4 => ?_) (fun c_4 => ?_)
      · replace h := it_t c_4 h
        refine g_iconst (v := (0 : Int32)) C dX5_measureProposal_79 (by decide) ?_
        refine g_sub [4, 5, 6, 2, 1, 0, 8] rfl ?_
        exact t_X5_measureProposal_80 N Γ C rc b hE hrec v2 (v3 + (1 : Int32)) (v4 + r_3) (if r_2 < v5 then r_2 else v5) v7 (0 : Int32) v6 m_3 h
      · replace h := it_f c_4 h
        refine g_iconst (v := (1 : Int32)) C dX5_measureProposal_75 (by decide) ?_
        refine g_goto (tgt := 80) C dX5_measureProposal_76 (by decide) ?_
        refine g_sub [4, 5, 6, 2, 1, 0, 8] rfl ?_
        exact t_X5_measureProposal_80 N Γ C rc b hE hrec v2 (v3 + (1 : Int32)) (v4 + r_3) (if r_2 < v5 then r_2 else v5) v7 (1 : Int32) v6 m_3 h
theorem lt_X5_measureProposal_15 (N : Nat) (Γ : Gc) (C : Cx Γ cX5_measureProposal 9 RX5 (rmK 3 65 0)) : ∀ (n : Nat) (v2 : Int32) (v3 : Int32) (v4 : Int32) (v5 : Int32) (v6 : Int32) (v7 : Int32) (m : Mem) (b : Int32 × Int32 × Int32 × Int32 × Int32 × Mem), L_X5_measureProposal_15 N n v2 v3 v4 v5 v6 v7 m = some b → Ex_X5_measureProposal_15 Γ 0 b → G Γ 9 0 m 15 [(0, .ref (oa (gw Γ) 38)), (1, .ref (oa (gw Γ) 3)), (2, .int v2), (3, .int v3), (4, .int v4), (5, .int v5), (6, .int v6), (7, .int v7)] [] := by
  intro n
  induction n with
  | zero =>
    intro v2 v3 v4 v5 v6 v7 m b h
    have h9 : (none : Option (Int32 × Int32 × Int32 × Int32 × Int32 × Mem)) = some b := h
    cases h9
  | succ n ih => intro v2 v3 v4 v5 v6 v7 m b h hE; exact t_X5_measureProposal_15 N Γ C (L_X5_measureProposal_15 N n) b hE ih v2 v3 v4 v5 v6 v7 m h
set_option maxRecDepth 100000 in
set_option maxHeartbeats 4000000 in
theorem t_X5_measureProposal_115 (N : Nat) (Γ : Gc) (C : Cx Γ cX5_measureProposal 9 RX5 (rmK 3 65 0)) (b : Mem) (hE : EVn Γ 9 cX5_measureProposal b) (v2 : Int32) (v5 : Int32) (v6 : Int32) (s0 : Int32) (s1 : Int32) (m : Mem) (h : B_X5_measureProposal_115 N v2 v5 v6 s0 s1 m = some b) : G Γ 9 0 m 115 [(0, .ref (oa (gw Γ) 38)), (2, .int v2), (5, .int v5), (6, .int v6)] [.int s0, .int s1, .ref (oa (gw Γ) 43)] := by
  unfold B_X5_measureProposal_115 at h
  obtain ⟨g_11, h⟩ := gd_some h
  obtain ⟨m_12, e_12, h⟩ := wr_some h
  refine g_iast C dX5_measureProposal_115 (okA_of rfl rfl g_11) (G_m e_12 ?_)
  refine g_aload_n C dX5_measureProposal_116 0 rfl rfl ?_
  refine g_getT (b := 44) (ci := 5) (j := 5) C dX5_measureProposal_117 rfl (by decide) rfl inT_X5 (by decide) k_148 rfl rfl rfl rfl ?_
  refine g_iload_n C dX5_measureProposal_120 1 rfl rfl ?_
  refine g_iload C dX5_measureProposal_121 2 rfl ?_
  obtain ⟨g_13, h⟩ := gd_some h
  obtain ⟨m_14, e_14, h⟩ := wr_some h
  refine g_iast C dX5_measureProposal_123 (okA_of rfl rfl g_13) (G_m e_14 ?_)
  refine g_aload_n C dX5_measureProposal_124 0 rfl rfl ?_
  refine g_getT (b := 45) (ci := 5) (j := 6) C dX5_measureProposal_125 rfl (by decide) rfl inT_X5 (by decide) k_149 rfl rfl rfl rfl ?_
  refine g_iload_n C dX5_measureProposal_128 1 rfl rfl ?_
  refine g_iload C dX5_measureProposal_129 3 rfl ?_
  obtain ⟨m_15, e_15, h⟩ := wr_some h
  refine g_iast C dX5_measureProposal_131 (okA_of rfl rfl g_13) (G_m e_15 ?_)
  obtain rfl := Option.some.inj h
  exact hE 132 _ dX5_measureProposal_132
set_option maxRecDepth 100000 in
set_option maxHeartbeats 4000000 in
theorem t_X5_measureProposal (N : Nat) (Γ : Gc) (C : Cx Γ cX5_measureProposal 9 RX5 (rmK 3 65 0)) (v2 : Int32) (m : Mem) (b : Mem) (h : f_X5_measureProposal N v2 m = some b) (hE : EVn Γ 9 cX5_measureProposal b) : G Γ 9 0 m 0 [(0, .ref (oa (gw Γ) 38)), (1, .ref (oa (gw Γ) 3)), (2, .int v2)] [] := by
  unfold f_X5_measureProposal at h
  refine g_iconst (v := (0 : Int32)) C dX5_measureProposal_0 (by decide) ?_
  refine g_istore_n (lv' := [(3, .int (0 : Int32)), (0, .ref (oa (gw Γ) 38)), (1, .ref (oa (gw Γ) 3)), (2, .int v2)]) C dX5_measureProposal_1 rfl (by decide) rfl ?_
  refine g_iconst (v := (0 : Int32)) C dX5_measureProposal_2 (by decide) ?_
  refine g_istore (lv' := [(4, .int (0 : Int32)), (3, .int (0 : Int32)), (0, .ref (oa (gw Γ) 38)), (1, .ref (oa (gw Γ) 3)), (2, .int v2)]) C dX5_measureProposal_3 (by decide) rfl ?_
  refine g_bipush (v := (100 : Int32)) C dX5_measureProposal_5 (by decide) ?_
  refine g_istore (lv' := [(5, .int (100 : Int32)), (4, .int (0 : Int32)), (3, .int (0 : Int32)), (0, .ref (oa (gw Γ) 38)), (1, .ref (oa (gw Γ) 3)), (2, .int v2)]) C dX5_measureProposal_7 (by decide) rfl ?_
  refine g_iconst (v := (0 : Int32)) C dX5_measureProposal_9 (by decide) ?_
  refine g_istore (lv' := [(6, .int (0 : Int32)), (5, .int (100 : Int32)), (4, .int (0 : Int32)), (3, .int (0 : Int32)), (0, .ref (oa (gw Γ) 38)), (1, .ref (oa (gw Γ) 3)), (2, .int v2)]) C dX5_measureProposal_10 (by decide) rfl ?_
  refine g_iconst (v := (0 : Int32)) C dX5_measureProposal_12 (by decide) ?_
  refine g_istore (lv' := [(7, .int (0 : Int32)), (6, .int (0 : Int32)), (5, .int (100 : Int32)), (4, .int (0 : Int32)), (3, .int (0 : Int32)), (0, .ref (oa (gw Γ) 38)), (1, .ref (oa (gw Γ) 3)), (2, .int v2)]) C dX5_measureProposal_13 (by decide) rfl ?_
  obtain ⟨v2_7, v3_7, v4_7, v5_7, v6_7, m_7, hx, h⟩ := l6_some h
  refine g_sub [5, 6, 7, 4, 3, 2, 1, 0] rfl ?_
  refine lt_X5_measureProposal_15 N Γ C N v2 (0 : Int32) (0 : Int32) (100 : Int32) (0 : Int32) (0 : Int32) m _ hx ?_
  intro z2 z3 z4 z5 z6 m9 e9
  cases e9
  refine g_aload_n C dX5_measureProposal_89 0 rfl rfl ?_
  refine g_getT (b := 42) (ci := 5) (j := 3) C dX5_measureProposal_90 rfl (by decide) rfl inT_X5 (by decide) k_166 rfl rfl rfl rfl ?_
  refine g_iload_n C dX5_measureProposal_93 1 rfl rfl ?_
  refine g_iload_n C dX5_measureProposal_94 2 rfl rfl ?_
  obtain ⟨g_8, h⟩ := gd_some h
  obtain ⟨m_9, e_9, h⟩ := wr_some h
  refine g_iast C dX5_measureProposal_95 (okA_of rfl rfl g_8) (G_m e_9 ?_)
  refine g_aload_n C dX5_measureProposal_96 0 rfl rfl ?_
  refine g_getT (b := 43) (ci := 5) (j := 4) C dX5_measureProposal_97 rfl (by decide) rfl inT_X5 (by decide) k_147 rfl rfl rfl rfl ?_
  refine g_iload_n C dX5_measureProposal_100 1 rfl rfl ?_
  refine g_iload_n C dX5_measureProposal_101 2 rfl rfl ?_
  refine g_if_ne (tgt := 109) C dX5_measureProposal_102 (by decide) (fun c_16 => ?_) (fun c_16 => ?_)
  · replace h := it_f c_16 h
    refine g_iload C dX5_measureProposal_109 3 rfl ?_
    refine g_iload_n C dX5_measureProposal_111 2 rfl rfl ?_
    obtain ⟨r_10, m_10, hk_10, h⟩ := b2_some h
    refine g_sI (As := [.int v4_7, .int v3_7]) C dX5_measureProposal_112 mf_J9_floorDiv_7cf53 k_171 ⟨by decide, by decide⟩ rfl rfl (Nat.le_of_ble_eq_true rfl) (by decide) (c_J9_floorDiv_7cf53 N (gl Γ) C.2.2.2.2 (gw Γ) v4_7 v3_7 m_9 _ hk_10) ?_
    refine g_sub [0, 1, 4, 5] rfl ?_
    exact t_X5_measureProposal_115 N Γ C b hE v2_7 v5_7 v6_7 r_10 v2_7 m_10 h
  · replace h := it_t c_16 h
    refine g_iconst (v := (0 : Int32)) C dX5_measureProposal_105 (by decide) ?_
    refine g_goto (tgt := 115) C dX5_measureProposal_106 (by decide) ?_
    refine g_sub [0, 1, 4, 5] rfl ?_
    exact t_X5_measureProposal_115 N Γ C b hE v2_7 v5_7 v6_7 (0 : Int32) v2_7 m_9 h
theorem c_X5_measureProposal (N : Nat) (l : Launch) (hst : l.stackTraces = false) (w : Om) (v2 : Int32) (m : Mem) (o : Mem) (h : f_X5_measureProposal N v2 m = some o) : KV l yX5_measureProposal cX5_measureProposal 9 none 3 65 w [.ref (oa w 38), .ref (oa w 3), .int v2] m o := KV_of hst (by decide +kernel) RX5 rfl (Nat.le_of_ble_eq_true rfl) (fun Γ hw hl C hE => by
  subst hw; subst hl
  exact t_X5_measureProposal N Γ C v2 m o h hE)
def Ex_X5_measureReviewer_8 (Γ : Gc) (cs : Nat) (b : Int32 × Int32 × Int32 × Mem) : Prop := (∀ (y2 : Int32) (y3 : Int32) (y4 : Int32) (m' : Mem), b = (y2, y3, y4, m') → G Γ 7 cs m' 46 [(0, .ref (oa (gw Γ) 38)), (1, .ref (oa (gw Γ) 3)), (2, .int y2), (3, .int y3), (4, .int y4)] [])
set_option maxRecDepth 100000 in
set_option maxHeartbeats 4000000 in
theorem t_X5_measureReviewer_8 (N : Nat) (Γ : Gc) (C : Cx Γ cX5_measureReviewer 7 RX5 (rmK 3 65 0)) (rc : Int32 → Int32 → Int32 → Int32 → Mem → Option (Int32 × Int32 × Int32 × Mem)) (b : Int32 × Int32 × Int32 × Mem) (hE : Ex_X5_measureReviewer_8 Γ 0 b) (hrec : ∀ (v2 : Int32) (v3 : Int32) (v4 : Int32) (v5 : Int32) (m : Mem) (b : Int32 × Int32 × Int32 × Mem), rc v2 v3 v4 v5 m = some b → Ex_X5_measureReviewer_8 Γ 0 b → G Γ 7 0 m 8 [(0, .ref (oa (gw Γ) 38)), (1, .ref (oa (gw Γ) 3)), (2, .int v2), (3, .int v3), (4, .int v4), (5, .int v5)] []) (v2 : Int32) (v3 : Int32) (v4 : Int32) (v5 : Int32) (m : Mem) (h : T_X5_measureReviewer_8 N rc v2 v3 v4 v5 m = some b) : G Γ 7 0 m 8 [(0, .ref (oa (gw Γ) 38)), (1, .ref (oa (gw Γ) 3)), (2, .int v2), (3, .int v3), (4, .int v4), (5, .int v5)] [] := by
  unfold T_X5_measureReviewer_8 at h
  refine g_iload C dX5_measureReviewer_8 5 rfl ?_
  refine g_bipush (v := (16 : Int32)) C dX5_measureReviewer_10 (by decide) ?_
  refine g_icmp_ge (tgt := 46) C dX5_measureReviewer_12 (by decide) (fun c_4 => ?_) (fun c_4 => ?_)
  · replace h := it_t c_4 h
    obtain rfl := Option.some.inj h
    refine g_sub [0, 1, 2, 3, 4] rfl ?_
    exact hE _ _ _ _ rfl
  · replace h := it_f c_4 h
    refine g_aload_n C dX5_measureReviewer_15 1 rfl rfl ?_
    refine g_iload_n C dX5_measureReviewer_16 2 rfl rfl ?_
    refine g_iload C dX5_measureReviewer_17 5 rfl ?_
    obtain ⟨r_1, m_1, hk_1, h⟩ := b2_some h
    refine g_vI (As := [.int v2, .int v5]) (a := 3) (ci := 7) C dX5_measureReviewer_19 mf_X7_hasScore k_178 rfl (by decide) ⟨by decide, by decide⟩ rfl rfl (Nat.le_of_ble_eq_true rfl) (by decide) rfl (c_X7_hasScore N (gl Γ) C.2.2.2.2 (gw Γ) v2 v5 m _ hk_1) ?_
    refine g_if_eq (tgt := 40) C dX5_measureReviewer_22 (by decide) (fun c_3 => ?_) (fun c_3 => ?_)
    · replace h := it_t c_3 h
      refine g_iinc (q := 5) (v := v5 + (1 : Int32)) (lv' := [(5, .int (v5 + (1 : Int32))), (0, .ref (oa (gw Γ) 38)), (1, .ref (oa (gw Γ) 3)), (2, .int v2), (3, .int v3), (4, .int v4)]) C dX5_measureReviewer_40 rfl rfl (by decide) rfl ?_
      refine g_goto (tgt := 8) C dX5_measureReviewer_43 (by decide) ?_
      refine g_sub [1, 2, 3, 4, 5, 0] rfl ?_
      exact hrec v2 v3 v4 (v5 + (1 : Int32)) m_1 b h hE
    · replace h := it_f c_3 h
      refine g_iinc (q := 3) (v := v3 + (1 : Int32)) (lv' := [(3, .int (v3 + (1 : Int32))), (0, .ref (oa (gw Γ) 38)), (1, .ref (oa (gw Γ) 3)), (2, .int v2), (4, .int v4), (5, .int v5)]) C dX5_measureReviewer_25 rfl rfl (by decide) rfl ?_
      refine g_iload C dX5_measureReviewer_28 4 rfl ?_
      refine g_aload_n C dX5_measureReviewer_30 2 rfl rfl ?_
      refine g_iload_n C dX5_measureReviewer_31 3 rfl rfl ?_
      refine g_iload C dX5_measureReviewer_32 5 rfl ?_
      obtain ⟨r_2, m_2, hk_2, h⟩ := b2_some h
      refine g_vI (As := [.int v2, .int v5]) (a := 3) (ci := 7) C dX5_measureReviewer_34 mf_X7_scoreAt k_182 rfl (by decide) ⟨by decide, by decide⟩ rfl rfl (Nat.le_of_ble_eq_true rfl) (by decide) rfl (c_X7_scoreAt N (gl Γ) C.2.2.2.2 (gw Γ) v2 v5 m_1 _ hk_2) ?_
      refine g_iadd C dX5_measureReviewer_37 ?_
      refine g_istore (lv' := [(4, .int (v4 + r_2)), (3, .int (v3 + (1 : Int32))), (0, .ref (oa (gw Γ) 38)), (1, .ref (oa (gw Γ) 3)), (2, .int v2), (5, .int v5)]) C dX5_measureReviewer_38 (by decide) rfl ?_
      refine g_iinc (q := 5) (v := v5 + (1 : Int32)) (lv' := [(5, .int (v5 + (1 : Int32))), (4, .int (v4 + r_2)), (3, .int (v3 + (1 : Int32))), (0, .ref (oa (gw Γ) 38)), (1, .ref (oa (gw Γ) 3)), (2, .int v2)]) C dX5_measureReviewer_40 rfl rfl (by decide) rfl ?_
      refine g_goto (tgt := 8) C dX5_measureReviewer_43 (by decide) ?_
      refine g_sub [3, 4, 5, 2, 1, 0] rfl ?_
      exact hrec v2 (v3 + (1 : Int32)) (v4 + r_2) (v5 + (1 : Int32)) m_2 b h hE
theorem lt_X5_measureReviewer_8 (N : Nat) (Γ : Gc) (C : Cx Γ cX5_measureReviewer 7 RX5 (rmK 3 65 0)) : ∀ (n : Nat) (v2 : Int32) (v3 : Int32) (v4 : Int32) (v5 : Int32) (m : Mem) (b : Int32 × Int32 × Int32 × Mem), L_X5_measureReviewer_8 N n v2 v3 v4 v5 m = some b → Ex_X5_measureReviewer_8 Γ 0 b → G Γ 7 0 m 8 [(0, .ref (oa (gw Γ) 38)), (1, .ref (oa (gw Γ) 3)), (2, .int v2), (3, .int v3), (4, .int v4), (5, .int v5)] [] := by
  intro n
  induction n with
  | zero =>
    intro v2 v3 v4 v5 m b h
    have h9 : (none : Option (Int32 × Int32 × Int32 × Mem)) = some b := h
    cases h9
  | succ n ih => intro v2 v3 v4 v5 m b h hE; exact t_X5_measureReviewer_8 N Γ C (L_X5_measureReviewer_8 N n) b hE ih v2 v3 v4 v5 m h
def Ex_X5_measureReviewer_52 (Γ : Gc) (cs : Nat) (b : Int32 × Int32 × Int32 × Int32 × Mem) : Prop := (∀ (y2 : Int32) (y3 : Int32) (y4 : Int32) (y5 : Int32) (m' : Mem), b = (y2, y3, y4, y5, m') → G Γ 7 cs m' 95 [(0, .ref (oa (gw Γ) 38)), (2, .int y2), (3, .int y3), (4, .int y4), (5, .int y5)] [])
set_option maxRecDepth 100000 in
set_option maxHeartbeats 4000000 in
theorem t_X5_measureReviewer_52 (N : Nat) (Γ : Gc) (C : Cx Γ cX5_measureReviewer 7 RX5 (rmK 3 65 0)) (rc : Int32 → Int32 → Int32 → Int32 → Int32 → Mem → Option (Int32 × Int32 × Int32 × Int32 × Mem)) (b : Int32 × Int32 × Int32 × Int32 × Mem) (hE : Ex_X5_measureReviewer_52 Γ 0 b) (hrec : ∀ (v2 : Int32) (v3 : Int32) (v4 : Int32) (v5 : Int32) (v6 : Int32) (m : Mem) (b : Int32 × Int32 × Int32 × Int32 × Mem), rc v2 v3 v4 v5 v6 m = some b → Ex_X5_measureReviewer_52 Γ 0 b → G Γ 7 0 m 52 [(0, .ref (oa (gw Γ) 38)), (1, .ref (oa (gw Γ) 3)), (2, .int v2), (3, .int v3), (4, .int v4), (5, .int v5), (6, .int v6)] []) (v2 : Int32) (v3 : Int32) (v4 : Int32) (v5 : Int32) (v6 : Int32) (m : Mem) (h : T_X5_measureReviewer_52 N rc v2 v3 v4 v5 v6 m = some b) : G Γ 7 0 m 52 [(0, .ref (oa (gw Γ) 38)), (1, .ref (oa (gw Γ) 3)), (2, .int v2), (3, .int v3), (4, .int v4), (5, .int v5), (6, .int v6)] [] := by
  unfold T_X5_measureReviewer_52 at h
  refine g_iload C dX5_measureReviewer_52 6 rfl ?_
  refine g_bipush (v := (16 : Int32)) C dX5_measureReviewer_54 (by decide) ?_
  refine g_icmp_ge (tgt := 95) C dX5_measureReviewer_56 (by decide) (fun c_9 => ?_) (fun c_9 => ?_)
  · replace h := it_t c_9 h
    obtain rfl := Option.some.inj h
    refine g_sub [0, 2, 3, 4, 5] rfl ?_
    exact hE _ _ _ _ _ rfl
  · replace h := it_f c_9 h
    refine g_aload_n C dX5_measureReviewer_59 1 rfl rfl ?_
    refine g_iload_n C dX5_measureReviewer_60 2 rfl rfl ?_
    refine g_iload C dX5_measureReviewer_61 6 rfl ?_
    obtain ⟨r_6, m_6, hk_6, h⟩ := b2_some h
    refine g_vI (As := [.int v2, .int v6]) (a := 3) (ci := 7) C dX5_measureReviewer_63 mf_X7_hasScore k_178 rfl (by decide) ⟨by decide, by decide⟩ rfl rfl (Nat.le_of_ble_eq_true rfl) (by decide) rfl (c_X7_hasScore N (gl Γ) C.2.2.2.2 (gw Γ) v2 v6 m _ hk_6) ?_
    refine g_if_eq (tgt := 89) C dX5_measureReviewer_66 (by decide) (fun c_8 => ?_) (fun c_8 => ?_)
    · replace h := it_t c_8 h
      refine g_iinc (q := 6) (v := v6 + (1 : Int32)) (lv' := [(6, .int (v6 + (1 : Int32))), (0, .ref (oa (gw Γ) 38)), (1, .ref (oa (gw Γ) 3)), (2, .int v2), (3, .int v3), (4, .int v4), (5, .int v5)]) C dX5_measureReviewer_89 rfl rfl (by decide) rfl ?_
      refine g_goto (tgt := 52) C dX5_measureReviewer_92 (by decide) ?_
      refine g_sub [1, 2, 3, 4, 5, 6, 0] rfl ?_
      exact hrec v2 v3 v4 v5 (v6 + (1 : Int32)) m_6 b h hE
    · replace h := it_f c_8 h
      refine g_iload C dX5_measureReviewer_69 5 rfl ?_
      refine g_iload_n C dX5_measureReviewer_71 3 rfl rfl ?_
      refine g_aload_n C dX5_measureReviewer_72 1 rfl rfl ?_
      refine g_iload_n C dX5_measureReviewer_73 2 rfl rfl ?_
      refine g_iload C dX5_measureReviewer_74 6 rfl ?_
      obtain ⟨r_7, m_7, hk_7, h⟩ := b2_some h
      refine g_vI (As := [.int v2, .int v6]) (a := 3) (ci := 7) C dX5_measureReviewer_76 mf_X7_scoreAt k_182 rfl (by decide) ⟨by decide, by decide⟩ rfl rfl (Nat.le_of_ble_eq_true rfl) (by decide) rfl (c_X7_scoreAt N (gl Γ) C.2.2.2.2 (gw Γ) v2 v6 m_6 _ hk_7) ?_
      refine g_imul C dX5_measureReviewer_79 ?_
      refine g_iload C dX5_measureReviewer_80 4 rfl ?_
      refine g_isub C dX5_measureReviewer_82 ?_
      refine g_abs C dX5_measureReviewer_83 k_188 k_189 k_61 k_190 (by decide) (Nat.le_of_ble_eq_true rfl) (by decide) ?_
      refine g_iadd C dX5_measureReviewer_86 ?_
      refine g_istore (lv' := [(5, .int (v5 + (if 0 ≤ ((v3 * r_7) - v4) then ((v3 * r_7) - v4) else 0 - ((v3 * r_7) - v4)))), (0, .ref (oa (gw Γ) 38)), (1, .ref (oa (gw Γ) 3)), (2, .int v2), (3, .int v3), (4, .int v4), (6, .int v6)]) C dX5_measureReviewer_87 (by decide) rfl ?_
      refine g_iinc (q := 6) (v := v6 + (1 : Int32)) (lv' := [(6, .int (v6 + (1 : Int32))), (5, .int (v5 + (if 0 ≤ ((v3 * r_7) - v4) then ((v3 * r_7) - v4) else 0 - ((v3 * r_7) - v4)))), (0, .ref (oa (gw Γ) 38)), (1, .ref (oa (gw Γ) 3)), (2, .int v2), (3, .int v3), (4, .int v4)]) C dX5_measureReviewer_89 rfl rfl (by decide) rfl ?_
      refine g_goto (tgt := 52) C dX5_measureReviewer_92 (by decide) ?_
      refine g_sub [2, 3, 4, 5, 6, 1, 0] rfl ?_
      exact hrec v2 v3 v4 (v5 + (if 0 ≤ ((v3 * r_7) - v4) then ((v3 * r_7) - v4) else 0 - ((v3 * r_7) - v4))) (v6 + (1 : Int32)) m_7 b h hE
theorem lt_X5_measureReviewer_52 (N : Nat) (Γ : Gc) (C : Cx Γ cX5_measureReviewer 7 RX5 (rmK 3 65 0)) : ∀ (n : Nat) (v2 : Int32) (v3 : Int32) (v4 : Int32) (v5 : Int32) (v6 : Int32) (m : Mem) (b : Int32 × Int32 × Int32 × Int32 × Mem), L_X5_measureReviewer_52 N n v2 v3 v4 v5 v6 m = some b → Ex_X5_measureReviewer_52 Γ 0 b → G Γ 7 0 m 52 [(0, .ref (oa (gw Γ) 38)), (1, .ref (oa (gw Γ) 3)), (2, .int v2), (3, .int v3), (4, .int v4), (5, .int v5), (6, .int v6)] [] := by
  intro n
  induction n with
  | zero =>
    intro v2 v3 v4 v5 v6 m b h
    have h9 : (none : Option (Int32 × Int32 × Int32 × Int32 × Mem)) = some b := h
    cases h9
  | succ n ih => intro v2 v3 v4 v5 v6 m b h hE; exact t_X5_measureReviewer_52 N Γ C (L_X5_measureReviewer_52 N n) b hE ih v2 v3 v4 v5 v6 m h
set_option maxRecDepth 100000 in
set_option maxHeartbeats 4000000 in
theorem t_X5_measureReviewer (N : Nat) (Γ : Gc) (C : Cx Γ cX5_measureReviewer 7 RX5 (rmK 3 65 0)) (v2 : Int32) (m : Mem) (b : Mem) (h : f_X5_measureReviewer N v2 m = some b) (hE : EVn Γ 7 cX5_measureReviewer b) : G Γ 7 0 m 0 [(0, .ref (oa (gw Γ) 38)), (1, .ref (oa (gw Γ) 3)), (2, .int v2)] [] := by
  unfold f_X5_measureReviewer at h
  refine g_iconst (v := (0 : Int32)) C dX5_measureReviewer_0 (by decide) ?_
  refine g_istore_n (lv' := [(3, .int (0 : Int32)), (0, .ref (oa (gw Γ) 38)), (1, .ref (oa (gw Γ) 3)), (2, .int v2)]) C dX5_measureReviewer_1 rfl (by decide) rfl ?_
  refine g_iconst (v := (0 : Int32)) C dX5_measureReviewer_2 (by decide) ?_
  refine g_istore (lv' := [(4, .int (0 : Int32)), (3, .int (0 : Int32)), (0, .ref (oa (gw Γ) 38)), (1, .ref (oa (gw Γ) 3)), (2, .int v2)]) C dX5_measureReviewer_3 (by decide) rfl ?_
  refine g_iconst (v := (0 : Int32)) C dX5_measureReviewer_5 (by decide) ?_
  refine g_istore (lv' := [(5, .int (0 : Int32)), (4, .int (0 : Int32)), (3, .int (0 : Int32)), (0, .ref (oa (gw Γ) 38)), (1, .ref (oa (gw Γ) 3)), (2, .int v2)]) C dX5_measureReviewer_6 (by decide) rfl ?_
  obtain ⟨v2_5, v3_5, v4_5, m_5, hx, h⟩ := l4_some h
  refine g_sub [3, 4, 5, 2, 1, 0] rfl ?_
  refine lt_X5_measureReviewer_8 N Γ C N v2 (0 : Int32) (0 : Int32) (0 : Int32) m _ hx ?_
  intro z2 z3 z4 m9 e9
  cases e9
  refine g_iconst (v := (0 : Int32)) C dX5_measureReviewer_46 (by decide) ?_
  refine g_istore (lv' := [(5, .int (0 : Int32)), (0, .ref (oa (gw Γ) 38)), (1, .ref (oa (gw Γ) 3)), (2, .int v2_5), (3, .int v3_5), (4, .int v4_5)]) C dX5_measureReviewer_47 (by decide) rfl ?_
  refine g_iconst (v := (0 : Int32)) C dX5_measureReviewer_49 (by decide) ?_
  refine g_istore (lv' := [(6, .int (0 : Int32)), (5, .int (0 : Int32)), (0, .ref (oa (gw Γ) 38)), (1, .ref (oa (gw Γ) 3)), (2, .int v2_5), (3, .int v3_5), (4, .int v4_5)]) C dX5_measureReviewer_50 (by decide) rfl ?_
  obtain ⟨v2_10, v3_10, v4_10, v5_10, m_10, hx, h⟩ := l5_some h
  refine g_sub [2, 3, 4, 5, 6, 1, 0] rfl ?_
  refine lt_X5_measureReviewer_52 N Γ C N v2_5 v3_5 v4_5 (0 : Int32) (0 : Int32) m_5 _ hx ?_
  intro z2 z3 z4 z5 m9 e9
  cases e9
  refine g_aload_n C dX5_measureReviewer_95 0 rfl rfl ?_
  refine g_getT (b := 39) (ci := 5) (j := 0) C dX5_measureReviewer_96 rfl (by decide) rfl inT_X5 (by decide) k_167 rfl rfl rfl rfl ?_
  refine g_iload_n C dX5_measureReviewer_99 1 rfl rfl ?_
  refine g_iload_n C dX5_measureReviewer_100 2 rfl rfl ?_
  obtain ⟨g_11, h⟩ := gd_some h
  obtain ⟨m_12, e_12, h⟩ := wr_some h
  refine g_iast C dX5_measureReviewer_101 (okA_of rfl rfl g_11) (G_m e_12 ?_)
  refine g_aload_n C dX5_measureReviewer_102 0 rfl rfl ?_
  refine g_getT (b := 40) (ci := 5) (j := 1) C dX5_measureReviewer_103 rfl (by decide) rfl inT_X5 (by decide) k_170 rfl rfl rfl rfl ?_
  refine g_iload_n C dX5_measureReviewer_106 1 rfl rfl ?_
  refine g_iload C dX5_measureReviewer_107 3 rfl ?_
  obtain ⟨m_13, e_13, h⟩ := wr_some h
  refine g_iast C dX5_measureReviewer_109 (okA_of rfl rfl g_11) (G_m e_13 ?_)
  refine g_aload_n C dX5_measureReviewer_110 0 rfl rfl ?_
  refine g_getT (b := 41) (ci := 5) (j := 2) C dX5_measureReviewer_111 rfl (by decide) rfl inT_X5 (by decide) k_168 rfl rfl rfl rfl ?_
  refine g_iload_n C dX5_measureReviewer_114 1 rfl rfl ?_
  refine g_iload C dX5_measureReviewer_115 4 rfl ?_
  obtain ⟨m_14, e_14, h⟩ := wr_some h
  refine g_iast C dX5_measureReviewer_117 (okA_of rfl rfl g_11) (G_m e_14 ?_)
  obtain rfl := Option.some.inj h
  exact hE 118 _ dX5_measureReviewer_118
theorem c_X5_measureReviewer (N : Nat) (l : Launch) (hst : l.stackTraces = false) (w : Om) (v2 : Int32) (m : Mem) (o : Mem) (h : f_X5_measureReviewer N v2 m = some o) : KV l yX5_measureReviewer cX5_measureReviewer 7 none 3 65 w [.ref (oa w 38), .ref (oa w 3), .int v2] m o := KV_of hst (by decide +kernel) RX5 rfl (Nat.le_of_ble_eq_true rfl) (fun Γ hw hl C hE => by
  subst hw; subst hl
  exact t_X5_measureReviewer N Γ C v2 m o h hE)
def Ex_X5_update_2 (Γ : Gc) (cs : Nat) (b : Nat × Mem) : Prop := (∀ (y1 : Nat) (m' : Mem), b = (y1, m') → G Γ 4 cs m' 22 [(0, .ref (oa (gw Γ) 38)), (1, .ref (oa (gw Γ) y1)), (2, .ref (oa (gw Γ) 3))] [])
set_option maxRecDepth 100000 in
set_option maxHeartbeats 4000000 in
theorem t_X5_update_2 (N : Nat) (Γ : Gc) (C : Cx Γ cX5_update 4 RX5 (rmK 4 93 0)) (rc : Nat → Int32 → Mem → Option (Nat × Mem)) (b : Nat × Mem) (hE : Ex_X5_update_2 Γ 0 b) (hrec : ∀ (v1 : Nat) (v3 : Int32) (m : Mem) (b : Nat × Mem), rc v1 v3 m = some b → Ex_X5_update_2 Γ 0 b → G Γ 4 0 m 2 [(0, .ref (oa (gw Γ) 38)), (1, .ref (oa (gw Γ) v1)), (2, .ref (oa (gw Γ) 3)), (3, .int v3)] []) (v1 : Nat) (v3 : Int32) (m : Mem) (h : T_X5_update_2 N rc v1 v3 m = some b) : G Γ 4 0 m 2 [(0, .ref (oa (gw Γ) 38)), (1, .ref (oa (gw Γ) v1)), (2, .ref (oa (gw Γ) 3)), (3, .int v3)] [] := by
  unfold T_X5_update_2 at h
  refine g_iload_n C dX5_update_2 3 rfl rfl ?_
  refine g_aload_n C dX5_update_3 1 rfl rfl ?_
  obtain ⟨g_1, h⟩ := gd_some h
  refine g_getI (ci := 6) (j := 1) C dX5_update_4 rfl (by decide) rfl inT_X6 (by decide) k_191 rfl g_1 ?_
  refine g_icmp_ge (tgt := 22) C dX5_update_7 (by decide) (fun c_3 => ?_) (fun c_3 => ?_)
  · replace h := it_t c_3 h
    obtain rfl := Option.some.inj h
    refine g_sub [0, 1, 2] rfl ?_
    exact hE _ _ rfl
  · replace h := it_f c_3 h
    refine g_aload_n C dX5_update_10 0 rfl rfl ?_
    refine g_aload_n C dX5_update_11 2 rfl rfl ?_
    refine g_iload_n C dX5_update_12 3 rfl rfl ?_
    obtain ⟨m_2, hk_2, h⟩ := b1_some h
    refine g_vV (As := [.ref (oa (gw Γ) 3), .int v3]) (a := 38) (ci := 5) C dX5_update_13 mf_X5_measureReviewer k_192 rfl (by decide) ⟨by decide, by decide⟩ rfl rfl (Nat.le_of_ble_eq_true rfl) (by decide) rfl (c_X5_measureReviewer N (gl Γ) C.2.2.2.2 (gw Γ) v3 m _ hk_2) ?_
    refine g_iinc (q := 3) (v := v3 + (1 : Int32)) (lv' := [(3, .int (v3 + (1 : Int32))), (0, .ref (oa (gw Γ) 38)), (1, .ref (oa (gw Γ) v1)), (2, .ref (oa (gw Γ) 3))]) C dX5_update_16 rfl rfl (by decide) rfl ?_
    refine g_goto (tgt := 2) C dX5_update_19 (by decide) ?_
    refine g_sub [1, 2, 3, 0] rfl ?_
    exact hrec v1 (v3 + (1 : Int32)) m_2 b h hE
theorem lt_X5_update_2 (N : Nat) (Γ : Gc) (C : Cx Γ cX5_update 4 RX5 (rmK 4 93 0)) : ∀ (n : Nat) (v1 : Nat) (v3 : Int32) (m : Mem) (b : Nat × Mem), L_X5_update_2 N n v1 v3 m = some b → Ex_X5_update_2 Γ 0 b → G Γ 4 0 m 2 [(0, .ref (oa (gw Γ) 38)), (1, .ref (oa (gw Γ) v1)), (2, .ref (oa (gw Γ) 3)), (3, .int v3)] [] := by
  intro n
  induction n with
  | zero =>
    intro v1 v3 m b h
    have h9 : (none : Option (Nat × Mem)) = some b := h
    cases h9
  | succ n ih => intro v1 v3 m b h hE; exact t_X5_update_2 N Γ C (L_X5_update_2 N n) b hE ih v1 v3 m h
def Ex_X5_update_29 (Γ : Gc) (cs : Nat) (b : Mem) : Prop := (∀  (m' : Mem), b = m' → G Γ 4 cs m' 74 [] [])
set_option maxRecDepth 100000 in
set_option maxHeartbeats 4000000 in
theorem t_X5_update_29 (N : Nat) (Γ : Gc) (C : Cx Γ cX5_update 4 RX5 (rmK 4 93 0)) (rc : Nat → Int32 → Mem → Option (Mem)) (b : Mem) (hE : Ex_X5_update_29 Γ 0 b) (hrec : ∀ (v1 : Nat) (v3 : Int32) (m : Mem) (b : Mem), rc v1 v3 m = some b → Ex_X5_update_29 Γ 0 b → G Γ 4 0 m 29 [(0, .ref (oa (gw Γ) 38)), (1, .ref (oa (gw Γ) v1)), (2, .ref (oa (gw Γ) 3)), (3, .int v3)] []) (v1 : Nat) (v3 : Int32) (m : Mem) (h : T_X5_update_29 N rc v1 v3 m = some b) : G Γ 4 0 m 29 [(0, .ref (oa (gw Γ) 38)), (1, .ref (oa (gw Γ) v1)), (2, .ref (oa (gw Γ) 3)), (3, .int v3)] [] := by
  unfold T_X5_update_29 at h
  refine g_iload_n C dX5_update_29 3 rfl rfl ?_
  refine g_aload_n C dX5_update_30 1 rfl rfl ?_
  obtain ⟨g_6, h⟩ := gd_some h
  refine g_getI (ci := 6) (j := 2) C dX5_update_31 rfl (by decide) rfl inT_X6 (by decide) k_196 rfl g_6 ?_
  refine g_icmp_ge (tgt := 74) C dX5_update_34 (by decide) (fun c_14 => ?_) (fun c_14 => ?_)
  · replace h := it_t c_14 h
    obtain rfl := Option.some.inj h
    refine g_sub [] rfl ?_
    exact hE _ rfl
  · replace h := it_f c_14 h
    refine g_aload_n C dX5_update_37 0 rfl rfl ?_
    refine g_getT (b := 46) (ci := 5) (j := 7) C dX5_update_38 rfl (by decide) rfl inT_X5 (by decide) k_150 rfl rfl rfl rfl ?_
    refine g_iload_n C dX5_update_41 3 rfl rfl ?_
    refine g_aload_n C dX5_update_42 1 rfl rfl ?_
    refine g_getT (b := rt v1 12) (ci := 6) (j := 12) C dX5_update_43 rfl (by decide) rfl inT_X6 (by decide) k_197 rfl rfl rfl g_6 ?_
    refine g_iload_n C dX5_update_46 3 rfl rfl ?_
    obtain ⟨g_7, h⟩ := gd_some h
    refine g_iald C dX5_update_47 g_7 ?_
    obtain ⟨g_8, h⟩ := gd_some h
    obtain ⟨m_9, e_9, h⟩ := wr_some h
    refine g_iast C dX5_update_48 (okA_of rfl rfl g_8) (G_m e_9 ?_)
    refine g_aload_n C dX5_update_49 0 rfl rfl ?_
    refine g_aload_n C dX5_update_50 2 rfl rfl ?_
    refine g_iload_n C dX5_update_51 3 rfl rfl ?_
    obtain ⟨m_10, hk_10, h⟩ := b1_some h
    refine g_vV (As := [.ref (oa (gw Γ) 3), .int v3]) (a := 38) (ci := 5) C dX5_update_52 mf_X5_measureProposal k_198 rfl (by decide) ⟨by decide, by decide⟩ rfl rfl (Nat.le_of_ble_eq_true rfl) (by decide) rfl (c_X5_measureProposal N (gl Γ) C.2.2.2.2 (gw Γ) v3 m_9 _ hk_10) ?_
    refine g_aload_n C dX5_update_55 0 rfl rfl ?_
    refine g_iload_n C dX5_update_56 3 rfl rfl ?_
    obtain ⟨r_11, m_11, hk_11, h⟩ := b2_some h
    refine g_vI (As := [.int v3]) (a := 38) (ci := 5) C dX5_update_57 mf_X5_isRanked k_202 rfl (by decide) ⟨by decide, by decide⟩ rfl rfl (Nat.le_of_ble_eq_true rfl) (by decide) rfl (c_X5_isRanked N (gl Γ) C.2.2.2.2 (gw Γ) v3 m_10 _ hk_11) ?_
    refine g_if_eq (tgt := 68) C dX5_update_60 (by decide) (fun c_13 => ?_) (fun c_13 => ?_)
    · replace h := it_t c_13 h
      refine g_iinc (q := 3) (v := v3 + (1 : Int32)) (lv' := [(3, .int (v3 + (1 : Int32))), (0, .ref (oa (gw Γ) 38)), (1, .ref (oa (gw Γ) v1)), (2, .ref (oa (gw Γ) 3))]) C dX5_update_68 rfl rfl (by decide) rfl ?_
      refine g_goto (tgt := 29) C dX5_update_71 (by decide) ?_
      refine g_sub [1, 2, 3, 0] rfl ?_
      exact hrec v1 (v3 + (1 : Int32)) m_11 b h hE
    · replace h := it_f c_13 h
      refine g_aload_n C dX5_update_63 0 rfl rfl ?_
      refine g_iload_n C dX5_update_64 3 rfl rfl ?_
      obtain ⟨m_12, hk_12, h⟩ := b1_some h
      refine g_vV (As := [.int v3]) (a := 38) (ci := 5) C dX5_update_65 mf_X5_insert k_206 rfl (by decide) ⟨by decide, by decide⟩ rfl rfl (Nat.le_of_ble_eq_true rfl) (by decide) rfl (c_X5_insert N (gl Γ) C.2.2.2.2 (gw Γ) v3 m_11 _ hk_12) ?_
      refine g_iinc (q := 3) (v := v3 + (1 : Int32)) (lv' := [(3, .int (v3 + (1 : Int32))), (0, .ref (oa (gw Γ) 38)), (1, .ref (oa (gw Γ) v1)), (2, .ref (oa (gw Γ) 3))]) C dX5_update_68 rfl rfl (by decide) rfl ?_
      refine g_goto (tgt := 29) C dX5_update_71 (by decide) ?_
      refine g_sub [1, 2, 3, 0] rfl ?_
      exact hrec v1 (v3 + (1 : Int32)) m_12 b h hE
theorem lt_X5_update_29 (N : Nat) (Γ : Gc) (C : Cx Γ cX5_update 4 RX5 (rmK 4 93 0)) : ∀ (n : Nat) (v1 : Nat) (v3 : Int32) (m : Mem) (b : Mem), L_X5_update_29 N n v1 v3 m = some b → Ex_X5_update_29 Γ 0 b → G Γ 4 0 m 29 [(0, .ref (oa (gw Γ) 38)), (1, .ref (oa (gw Γ) v1)), (2, .ref (oa (gw Γ) 3)), (3, .int v3)] [] := by
  intro n
  induction n with
  | zero =>
    intro v1 v3 m b h
    have h9 : (none : Option (Mem)) = some b := h
    cases h9
  | succ n ih => intro v1 v3 m b h hE; exact t_X5_update_29 N Γ C (L_X5_update_29 N n) b hE ih v1 v3 m h
set_option maxRecDepth 100000 in
set_option maxHeartbeats 4000000 in
theorem t_X5_update (N : Nat) (Γ : Gc) (C : Cx Γ cX5_update 4 RX5 (rmK 4 93 0)) (v1 : Nat) (m : Mem) (b : Mem) (h : f_X5_update N v1 m = some b) (hE : EVn Γ 4 cX5_update b) : G Γ 4 0 m 0 [(0, .ref (oa (gw Γ) 38)), (1, .ref (oa (gw Γ) v1)), (2, .ref (oa (gw Γ) 3))] [] := by
  unfold f_X5_update at h
  refine g_iconst (v := (0 : Int32)) C dX5_update_0 (by decide) ?_
  refine g_istore_n (lv' := [(3, .int (0 : Int32)), (0, .ref (oa (gw Γ) 38)), (1, .ref (oa (gw Γ) v1)), (2, .ref (oa (gw Γ) 3))]) C dX5_update_1 rfl (by decide) rfl ?_
  obtain ⟨v1_4, m_4, hx, h⟩ := l2_some h
  refine g_sub [1, 2, 3, 0] rfl ?_
  refine lt_X5_update_2 N Γ C N v1 (0 : Int32) m _ hx ?_
  intro z1 m9 e9
  cases e9
  refine g_aload_n C dX5_update_22 0 rfl rfl ?_
  refine g_iconst (v := (0 : Int32)) C dX5_update_23 (by decide) ?_
  obtain ⟨m_5, e_5, h⟩ := wr_some h
  refine g_putI (ci := 5) (j := 9) C dX5_update_24 rfl (by decide) rfl inT_X5 (by decide) k_160 tyX5 tyX5_ok nmX5 rfl rfl rfl rfl rfl (G_m e_5 ?_)
  refine g_iconst (v := (0 : Int32)) C dX5_update_27 (by decide) ?_
  refine g_istore_n (lv' := [(3, .int (0 : Int32)), (0, .ref (oa (gw Γ) 38)), (1, .ref (oa (gw Γ) v1_4)), (2, .ref (oa (gw Γ) 3))]) C dX5_update_28 rfl (by decide) rfl ?_
  obtain ⟨m_15, hx, h⟩ := l1_some h
  refine g_sub [1, 2, 3, 0] rfl ?_
  refine lt_X5_update_29 N Γ C N v1_4 (0 : Int32) m_5 _ hx ?_
  intro  m9 e9
  cases e9
  obtain rfl := Option.some.inj h
  exact hE 74 _ dX5_update_74
theorem c_X5_update (N : Nat) (l : Launch) (hst : l.stackTraces = false) (w : Om) (v1 : Nat) (m : Mem) (o : Mem) (h : f_X5_update N v1 m = some o) : KV l yX5_update cX5_update 4 none 4 93 w [.ref (oa w 38), .ref (oa w v1), .ref (oa w 3)] m o := KV_of hst (by decide +kernel) RX5 rfl (Nat.le_of_ble_eq_true rfl) (fun Γ hw hl C hE => by
  subst hw; subst hl
  exact t_X5_update N Γ C v1 m o h hE)
set_option maxRecDepth 100000 in
set_option maxHeartbeats 4000000 in
theorem t_X6_clear (N : Nat) (Γ : Gc) (C : Cx Γ cX6_clear 1 RX6 (rmK 1 23 0)) (v0 : Nat) (m : Mem) (b : Mem) (h : f_X6_clear N v0 m = some b) (hE : EVn Γ 1 cX6_clear b) : G Γ 1 0 m 0 [(0, .ref (oa (gw Γ) v0))] [] := by
  unfold f_X6_clear at h
  refine g_aload_n C dX6_clear_0 0 rfl rfl ?_
  refine g_iconst (v := (0 : Int32)) C dX6_clear_1 (by decide) ?_
  obtain ⟨g_1, h⟩ := gd_some h
  obtain ⟨m_2, e_2, h⟩ := wr_some h
  refine g_putI (ci := 6) (j := 0) C dX6_clear_2 rfl (by decide) rfl inT_X6 (by decide) k_210 tyX6 tyX6_ok nmX6 rfl rfl g_1 rfl rfl (G_m e_2 ?_)
  refine g_aload_n C dX6_clear_5 0 rfl rfl ?_
  refine g_iconst (v := (0 : Int32)) C dX6_clear_6 (by decide) ?_
  obtain ⟨m_3, e_3, h⟩ := wr_some h
  refine g_putI (ci := 6) (j := 1) C dX6_clear_7 rfl (by decide) rfl inT_X6 (by decide) k_211 tyX6 tyX6_ok nmX6 rfl rfl g_1 rfl rfl (G_m e_3 ?_)
  refine g_aload_n C dX6_clear_10 0 rfl rfl ?_
  refine g_iconst (v := (0 : Int32)) C dX6_clear_11 (by decide) ?_
  obtain ⟨m_4, e_4, h⟩ := wr_some h
  refine g_putI (ci := 6) (j := 2) C dX6_clear_12 rfl (by decide) rfl inT_X6 (by decide) k_212 tyX6 tyX6_ok nmX6 rfl rfl g_1 rfl rfl (G_m e_4 ?_)
  refine g_aload_n C dX6_clear_15 0 rfl rfl ?_
  refine g_getT (b := rt v0 8) (ci := 6) (j := 8) C dX6_clear_16 rfl (by decide) rfl inT_X6 (by decide) k_213 rfl rfl rfl g_1 ?_
  refine g_iconst (v := (0 : Int32)) C dX6_clear_19 (by decide) ?_
  obtain ⟨m_5, hk_5, h⟩ := b1_some h
  refine g_sV (As := [.ref (oa (gw Γ) (rt v0 8)), .int (0 : Int32)]) C dX6_clear_20 mf_J7_fill_53178 k_214 ⟨by decide, by decide⟩ rfl rfl (Nat.le_of_ble_eq_true rfl) (by decide) (c_J7_fill_53178 N (gl Γ) C.2.2.2.2 (gw Γ) (rt v0 8) (0 : Int32) m_4 _ hk_5) ?_
  refine g_aload_n C dX6_clear_23 0 rfl rfl ?_
  refine g_iconst (v := (2 : Int32)) C dX6_clear_24 (by decide) ?_
  obtain ⟨m_6, e_6, h⟩ := wr_some h
  refine g_putI (ci := 6) (j := 14) C dX6_clear_25 rfl (by decide) rfl inT_X6 (by decide) k_215 tyX6 tyX6_ok nmX6 rfl rfl g_1 rfl rfl (G_m e_6 ?_)
  refine g_aload_n C dX6_clear_28 0 rfl rfl ?_
  refine g_bipush (v := (20 : Int32)) C dX6_clear_29 (by decide) ?_
  obtain ⟨m_7, e_7, h⟩ := wr_some h
  refine g_putI (ci := 6) (j := 15) C dX6_clear_31 rfl (by decide) rfl inT_X6 (by decide) k_216 tyX6 tyX6_ok nmX6 rfl rfl g_1 rfl rfl (G_m e_7 ?_)
  refine g_aload_n C dX6_clear_34 0 rfl rfl ?_
  refine g_iconst (v := (0 : Int32)) C dX6_clear_35 (by decide) ?_
  obtain ⟨m_8, e_8, h⟩ := wr_some h
  refine g_putI (ci := 6) (j := 16) C dX6_clear_36 rfl (by decide) rfl inT_X6 (by decide) k_217 tyX6 tyX6_ok nmX6 rfl rfl g_1 rfl rfl (G_m e_8 ?_)
  refine g_aload_n C dX6_clear_39 0 rfl rfl ?_
  refine g_iconst (v := (0 : Int32)) C dX6_clear_40 (by decide) ?_
  obtain ⟨m_9, e_9, h⟩ := wr_some h
  refine g_putI (ci := 6) (j := 17) C dX6_clear_41 rfl (by decide) rfl inT_X6 (by decide) k_218 tyX6 tyX6_ok nmX6 rfl rfl g_1 rfl rfl (G_m e_9 ?_)
  obtain rfl := Option.some.inj h
  exact hE 44 _ dX6_clear_44
theorem c_X6_clear (N : Nat) (l : Launch) (hst : l.stackTraces = false) (w : Om) (v0 : Nat) (m : Mem) (o : Mem) (h : f_X6_clear N v0 m = some o) : KV l yX6_clear cX6_clear 1 none 1 23 w [.ref (oa w v0)] m o := KV_of hst (by decide +kernel) RX6 rfl (Nat.le_of_ble_eq_true rfl) (fun Γ hw hl C hE => by
  subst hw; subst hl
  exact t_X6_clear N Γ C v0 m o h hE)
set_option maxRecDepth 100000 in
set_option maxHeartbeats 4000000 in
theorem t_X7_restart (N : Nat) (Γ : Gc) (C : Cx Γ cX7_restart 2 RX7 (rmK 1 60 0)) (v1 : Nat) (m : Mem) (b : Mem) (h : f_X7_restart N v1 m = some b) (hE : EVn Γ 2 cX7_restart b) : G Γ 2 0 m 0 [(0, .ref (oa (gw Γ) 3)), (1, .ref (oa (gw Γ) v1))] [] := by
  unfold f_X7_restart at h
  refine g_aload_n C dX7_restart_0 0 rfl rfl ?_
  refine g_getT (b := 4) (ci := 7) (j := 0) C dX7_restart_1 rfl (by decide) rfl inT_X7 (by decide) k_44 rfl rfl rfl rfl ?_
  refine g_iconst (v := (0 : Int32)) C dX7_restart_4 (by decide) ?_
  obtain ⟨m_1, hk_1, h⟩ := b1_some h
  refine g_sV (As := [.ref (oa (gw Γ) 4), .int (0 : Int32)]) C dX7_restart_5 mf_J7_fill_53178 k_219 ⟨by decide, by decide⟩ rfl rfl (Nat.le_of_ble_eq_true rfl) (by decide) (c_J7_fill_53178 N (gl Γ) C.2.2.2.2 (gw Γ) 4 (0 : Int32) m _ hk_1) ?_
  refine g_aload_n C dX7_restart_8 1 rfl rfl ?_
  obtain ⟨g_2, h⟩ := gd_some h
  refine g_getT (b := rt v1 8) (ci := 6) (j := 8) C dX7_restart_9 rfl (by decide) rfl inT_X6 (by decide) k_220 rfl rfl rfl g_2 ?_
  refine g_iconst (v := (0 : Int32)) C dX7_restart_12 (by decide) ?_
  refine g_aload_n C dX7_restart_13 0 rfl rfl ?_
  refine g_getT (b := 5) (ci := 7) (j := 1) C dX7_restart_14 rfl (by decide) rfl inT_X7 (by decide) k_49 rfl rfl rfl rfl ?_
  refine g_iconst (v := (0 : Int32)) C dX7_restart_17 (by decide) ?_
  refine g_bipush (v := (12 : Int32)) C dX7_restart_18 (by decide) ?_
  obtain ⟨g_3, h⟩ := gd_some h
  obtain ⟨m_4, e_4, h⟩ := wr_some h
  refine g_acopy C dX7_restart_20 k_45 k_46 k_47 k_48 (by decide) (Nat.le_of_ble_eq_true rfl) g_3 (G_m e_4 ?_)
  refine g_aload_n C dX7_restart_23 0 rfl rfl ?_
  refine g_iconst (v := (0 : Int32)) C dX7_restart_24 (by decide) ?_
  obtain ⟨m_5, e_5, h⟩ := wr_some h
  refine g_putI (ci := 7) (j := 2) C dX7_restart_25 rfl (by decide) rfl inT_X7 (by decide) k_50 tyX7 tyX7_ok nmX7 rfl rfl rfl rfl rfl (G_m e_5 ?_)
  refine g_aload_n C dX7_restart_28 0 rfl rfl ?_
  refine g_aload_n C dX7_restart_29 1 rfl rfl ?_
  refine g_getI (ci := 6) (j := 16) C dX7_restart_30 rfl (by decide) rfl inT_X6 (by decide) k_221 rfl g_2 ?_
  obtain ⟨m_6, e_6, h⟩ := wr_some h
  refine g_putI (ci := 7) (j := 3) C dX7_restart_33 rfl (by decide) rfl inT_X7 (by decide) k_51 tyX7 tyX7_ok nmX7 rfl rfl rfl rfl rfl (G_m e_6 ?_)
  obtain rfl := Option.some.inj h
  exact hE 36 _ dX7_restart_36
theorem c_X7_restart (N : Nat) (l : Launch) (hst : l.stackTraces = false) (w : Om) (v1 : Nat) (m : Mem) (o : Mem) (h : f_X7_restart N v1 m = some o) : KV l yX7_restart cX7_restart 2 none 1 60 w [.ref (oa w 3), .ref (oa w v1)] m o := KV_of hst (by decide +kernel) RX7 rfl (Nat.le_of_ble_eq_true rfl) (fun Γ hw hl C hE => by
  subst hw; subst hl
  exact t_X7_restart N Γ C v1 m o h hE)
set_option maxRecDepth 100000 in
set_option maxHeartbeats 4000000 in
theorem t_X7_put (N : Nat) (Γ : Gc) (C : Cx Γ cX7_put 4 RX7 (rmK 1 21 0)) (v1 : Int32) (v2 : Int32) (v3 : Int32) (m : Mem) (b : Mem) (h : f_X7_put N v1 v2 v3 m = some b) (hE : EVn Γ 4 cX7_put b) : G Γ 4 0 m 0 [(0, .ref (oa (gw Γ) 3)), (1, .int v1), (2, .int v2), (3, .int v3)] [] := by
  unfold f_X7_put at h
  refine g_aload_n C dX7_put_0 0 rfl rfl ?_
  refine g_getT (b := 4) (ci := 7) (j := 0) C dX7_put_1 rfl (by decide) rfl inT_X7 (by decide) k_44 rfl rfl rfl rfl ?_
  refine g_iload_n C dX7_put_4 1 rfl rfl ?_
  refine g_iload_n C dX7_put_5 2 rfl rfl ?_
  obtain ⟨r_1, m_1, hk_1, h⟩ := b2_some h
  refine g_nI (As := [.int v1, .int v2]) C dX7_put_6 mf_X9_cell (List.mem_of_getElem? (i := 0) rfl) ⟨by decide, by decide⟩ rfl rfl (Nat.le_of_ble_eq_true rfl) (by decide) (c_X9_cell N (gl Γ) C.2.2.2.2 (gw Γ) v1 v2 m _ hk_1) ?_
  refine g_iload_n C dX7_put_9 3 rfl rfl ?_
  obtain ⟨g_2, h⟩ := gd_some h
  obtain ⟨m_3, e_3, h⟩ := wr_some h
  refine g_iast C dX7_put_10 (okA_of rfl rfl g_2) (G_m e_3 ?_)
  obtain rfl := Option.some.inj h
  exact hE 11 _ dX7_put_11
theorem c_X7_put (N : Nat) (l : Launch) (hst : l.stackTraces = false) (w : Om) (v1 : Int32) (v2 : Int32) (v3 : Int32) (m : Mem) (o : Mem) (h : f_X7_put N v1 v2 v3 m = some o) : KV l yX7_put cX7_put 4 none 1 21 w [.ref (oa w 3), .int v1, .int v2, .int v3] m o := KV_of hst (by decide +kernel) RX7 rfl (Nat.le_of_ble_eq_true rfl) (fun Γ hw hl C hE => by
  subst hw; subst hl
  exact t_X7_put N Γ C v1 v2 v3 m o h hE)
set_option maxRecDepth 100000 in
set_option maxHeartbeats 4000000 in
theorem t_X7_hasReview (N : Nat) (Γ : Gc) (C : Cx Γ cX7_hasReview 3 RX7 (rmK 2 43 0)) (v1 : Int32) (v2 : Int32) (m : Mem) (b : Int32 × Mem) (h : f_X7_hasReview N v1 v2 m = some b) (hE : EZn Γ 3 cX7_hasReview b) : G Γ 3 0 m 0 [(0, .ref (oa (gw Γ) 3)), (1, .int v1), (2, .int v2)] [] := by
  unfold f_X7_hasReview at h
  refine g_aload_n C dX7_hasReview_0 0 rfl rfl ?_
  refine g_iload_n C dX7_hasReview_1 1 rfl rfl ?_
  refine g_iload_n C dX7_hasReview_2 2 rfl rfl ?_
  obtain ⟨r_1, m_1, hk_1, h⟩ := b2_some h
  refine g_vI (As := [.int v1, .int v2]) (a := 3) (ci := 7) C dX7_hasReview_3 mf_X7_scoreAt k_174 rfl (by decide) ⟨by decide, by decide⟩ rfl rfl (Nat.le_of_ble_eq_true rfl) (by decide) rfl (c_X7_scoreAt N (gl Γ) C.2.2.2.2 (gw Γ) v1 v2 m _ hk_1) ?_
  refine g_if_eq (tgt := 13) C dX7_hasReview_6 (by decide) (fun c_2 => ?_) (fun c_2 => ?_)
  · replace h := it_t c_2 h
    refine g_iconst (v := (0 : Int32)) C dX7_hasReview_13 (by decide) ?_
    obtain rfl := Option.some.inj h
    exact hE 14 _ (show isB (0 : Int32) = true by decide) dX7_hasReview_14
  · replace h := it_f c_2 h
    refine g_iconst (v := (1 : Int32)) C dX7_hasReview_9 (by decide) ?_
    refine g_goto (tgt := 14) C dX7_hasReview_10 (by decide) ?_
    obtain rfl := Option.some.inj h
    exact hE 14 _ (show isB (1 : Int32) = true by decide) dX7_hasReview_14
theorem c_X7_hasReview (N : Nat) (l : Launch) (hst : l.stackTraces = false) (w : Om) (v1 : Int32) (v2 : Int32) (m : Mem) (o : Int32 × Mem) (h : f_X7_hasReview N v1 v2 m = some o) : KI l yX7_hasReview cX7_hasReview 3 (some .boolean) 2 43 w [.ref (oa w 3), .int v1, .int v2] m o.1 o.2 := KZ_of hst (by decide +kernel) RX7 rfl (Nat.le_of_ble_eq_true rfl) (fun Γ hw hl C hE => by
  subst hw; subst hl
  exact t_X7_hasReview N Γ C v1 v2 m o h hE)
set_option maxRecDepth 100000 in
set_option maxHeartbeats 4000000 in
theorem t_X7_addConflict (N : Nat) (Γ : Gc) (C : Cx Γ cX7_addConflict 3 RX7 (rmK 0 0 0)) (v1 : Int32) (v2 : Int32) (m : Mem) (b : Mem) (h : f_X7_addConflict N v1 v2 m = some b) (hE : EVn Γ 3 cX7_addConflict b) : G Γ 3 0 m 0 [(0, .ref (oa (gw Γ) 3)), (1, .int v1), (2, .int v2)] [] := by
  unfold f_X7_addConflict at h
  refine g_aload_n C dX7_addConflict_0 0 rfl rfl ?_
  refine g_getT (b := 5) (ci := 7) (j := 1) C dX7_addConflict_1 rfl (by decide) rfl inT_X7 (by decide) k_49 rfl rfl rfl rfl ?_
  refine g_iload_n C dX7_addConflict_4 1 rfl rfl ?_
  refine g_dup2 C dX7_addConflict_5 rfl rfl ?_
  obtain ⟨g_1, h⟩ := gd_some h
  refine g_iald C dX7_addConflict_6 (okA_of rfl rfl g_1) ?_
  refine g_iconst (v := (1 : Int32)) C dX7_addConflict_7 (by decide) ?_
  refine g_iload_n C dX7_addConflict_8 2 rfl rfl ?_
  refine g_ishl C dX7_addConflict_9 ?_
  refine g_ior C dX7_addConflict_10 ?_
  obtain ⟨m_2, e_2, h⟩ := wr_some h
  refine g_iast C dX7_addConflict_11 (okA_of rfl rfl g_1) (G_m e_2 ?_)
  obtain rfl := Option.some.inj h
  exact hE 12 _ dX7_addConflict_12
theorem c_X7_addConflict (N : Nat) (l : Launch) (hst : l.stackTraces = false) (w : Om) (v1 : Int32) (v2 : Int32) (m : Mem) (o : Mem) (h : f_X7_addConflict N v1 v2 m = some o) : KV l yX7_addConflict cX7_addConflict 3 none 0 0 w [.ref (oa w 3), .int v1, .int v2] m o := KV_of hst (by decide +kernel) RX7 rfl (Nat.le_of_ble_eq_true rfl) (fun Γ hw hl C hE => by
  subst hw; subst hl
  exact t_X7_addConflict N Γ C v1 v2 m o h hE)
set_option maxRecDepth 100000 in
set_option maxHeartbeats 4000000 in
theorem t_X7_isGranted (N : Nat) (Γ : Gc) (C : Cx Γ cX7_isGranted 2 RX7 (rmK 0 0 0)) (v1 : Int32) (m : Mem) (b : Int32 × Mem) (h : f_X7_isGranted N v1 m = some b) (hE : EZn Γ 2 cX7_isGranted b) : G Γ 2 0 m 0 [(0, .ref (oa (gw Γ) 3)), (1, .int v1)] [] := by
  unfold f_X7_isGranted at h
  refine g_aload_n C dX7_isGranted_0 0 rfl rfl ?_
  refine g_getI (ci := 7) (j := 2) C dX7_isGranted_1 rfl (by decide) rfl inT_X7 (by decide) k_50 rfl rfl ?_
  refine g_iload_n C dX7_isGranted_4 1 rfl rfl ?_
  refine g_ishr C dX7_isGranted_5 ?_
  refine g_iconst (v := (1 : Int32)) C dX7_isGranted_6 (by decide) ?_
  refine g_iand C dX7_isGranted_7 ?_
  refine g_if_eq (tgt := 15) C dX7_isGranted_8 (by decide) (fun c_1 => ?_) (fun c_1 => ?_)
  · replace h := it_t c_1 h
    refine g_iconst (v := (0 : Int32)) C dX7_isGranted_15 (by decide) ?_
    obtain rfl := Option.some.inj h
    exact hE 16 _ (show isB (0 : Int32) = true by decide) dX7_isGranted_16
  · replace h := it_f c_1 h
    refine g_iconst (v := (1 : Int32)) C dX7_isGranted_11 (by decide) ?_
    refine g_goto (tgt := 16) C dX7_isGranted_12 (by decide) ?_
    obtain rfl := Option.some.inj h
    exact hE 16 _ (show isB (1 : Int32) = true by decide) dX7_isGranted_16
theorem c_X7_isGranted (N : Nat) (l : Launch) (hst : l.stackTraces = false) (w : Om) (v1 : Int32) (m : Mem) (o : Int32 × Mem) (h : f_X7_isGranted N v1 m = some o) : KI l yX7_isGranted cX7_isGranted 2 (some .boolean) 0 0 w [.ref (oa w 3), .int v1] m o.1 o.2 := KZ_of hst (by decide +kernel) RX7 rfl (Nat.le_of_ble_eq_true rfl) (fun Γ hw hl C hE => by
  subst hw; subst hl
  exact t_X7_isGranted N Γ C v1 m o h hE)
set_option maxRecDepth 100000 in
set_option maxHeartbeats 4000000 in
theorem t_X7_grantAppeal (N : Nat) (Γ : Gc) (C : Cx Γ cX7_grantAppeal 2 RX7 (rmK 0 0 0)) (v1 : Int32) (m : Mem) (b : Mem) (h : f_X7_grantAppeal N v1 m = some b) (hE : EVn Γ 2 cX7_grantAppeal b) : G Γ 2 0 m 0 [(0, .ref (oa (gw Γ) 3)), (1, .int v1)] [] := by
  unfold f_X7_grantAppeal at h
  refine g_aload_n C dX7_grantAppeal_0 0 rfl rfl ?_
  refine g_dup C dX7_grantAppeal_1 rfl ?_
  refine g_getI (ci := 7) (j := 2) C dX7_grantAppeal_2 rfl (by decide) rfl inT_X7 (by decide) k_50 rfl rfl ?_
  refine g_iconst (v := (1 : Int32)) C dX7_grantAppeal_5 (by decide) ?_
  refine g_iload_n C dX7_grantAppeal_6 1 rfl rfl ?_
  refine g_ishl C dX7_grantAppeal_7 ?_
  refine g_ior C dX7_grantAppeal_8 ?_
  obtain ⟨m_1, e_1, h⟩ := wr_some h
  refine g_putI (ci := 7) (j := 2) C dX7_grantAppeal_9 rfl (by decide) rfl inT_X7 (by decide) k_50 tyX7 tyX7_ok nmX7 rfl rfl rfl rfl rfl (G_m e_1 ?_)
  obtain rfl := Option.some.inj h
  exact hE 12 _ dX7_grantAppeal_12
theorem c_X7_grantAppeal (N : Nat) (l : Launch) (hst : l.stackTraces = false) (w : Om) (v1 : Int32) (m : Mem) (o : Mem) (h : f_X7_grantAppeal N v1 m = some o) : KV l yX7_grantAppeal cX7_grantAppeal 2 none 0 0 w [.ref (oa w 3), .int v1] m o := KV_of hst (by decide +kernel) RX7 rfl (Nat.le_of_ble_eq_true rfl) (fun Γ hw hl C hE => by
  subst hw; subst hl
  exact t_X7_grantAppeal N Γ C v1 m o h hE)
def Ex_X7_reviewsOfReviewer_4 (Γ : Gc) (cs : Nat) (b : Int32 × Mem) : Prop := (∀ (y2 : Int32) (m' : Mem), b = (y2, m') → G Γ 4 cs m' 28 [(2, .int y2)] [])
set_option maxRecDepth 100000 in
set_option maxHeartbeats 4000000 in
theorem t_X7_reviewsOfReviewer_4 (N : Nat) (Γ : Gc) (C : Cx Γ cX7_reviewsOfReviewer 4 RX7 (rmK 3 65 0)) (rc : Int32 → Int32 → Int32 → Mem → Option (Int32 × Mem)) (b : Int32 × Mem) (hE : Ex_X7_reviewsOfReviewer_4 Γ 0 b) (hrec : ∀ (v1 : Int32) (v2 : Int32) (v3 : Int32) (m : Mem) (b : Int32 × Mem), rc v1 v2 v3 m = some b → Ex_X7_reviewsOfReviewer_4 Γ 0 b → G Γ 4 0 m 4 [(0, .ref (oa (gw Γ) 3)), (1, .int v1), (2, .int v2), (3, .int v3)] []) (v1 : Int32) (v2 : Int32) (v3 : Int32) (m : Mem) (h : T_X7_reviewsOfReviewer_4 N rc v1 v2 v3 m = some b) : G Γ 4 0 m 4 [(0, .ref (oa (gw Γ) 3)), (1, .int v1), (2, .int v2), (3, .int v3)] [] := by
  unfold T_X7_reviewsOfReviewer_4 at h
  refine g_iload_n C dX7_reviewsOfReviewer_4 3 rfl rfl ?_
  refine g_bipush (v := (16 : Int32)) C dX7_reviewsOfReviewer_5 (by decide) ?_
  refine g_icmp_ge (tgt := 28) C dX7_reviewsOfReviewer_7 (by decide) (fun c_3 => ?_) (fun c_3 => ?_)
  · replace h := it_t c_3 h
    obtain rfl := Option.some.inj h
    refine g_sub [2] rfl ?_
    exact hE _ _ rfl
  · replace h := it_f c_3 h
    refine g_aload_n C dX7_reviewsOfReviewer_10 0 rfl rfl ?_
    refine g_iload_n C dX7_reviewsOfReviewer_11 1 rfl rfl ?_
    refine g_iload_n C dX7_reviewsOfReviewer_12 3 rfl rfl ?_
    obtain ⟨r_1, m_1, hk_1, h⟩ := b2_some h
    refine g_vI (As := [.int v1, .int v3]) (a := 3) (ci := 7) C dX7_reviewsOfReviewer_13 mf_X7_hasReview k_222 rfl (by decide) ⟨by decide, by decide⟩ rfl rfl (Nat.le_of_ble_eq_true rfl) (by decide) rfl (c_X7_hasReview N (gl Γ) C.2.2.2.2 (gw Γ) v1 v3 m _ hk_1) ?_
    refine g_if_eq (tgt := 22) C dX7_reviewsOfReviewer_16 (by decide) (fun c_2 => ?_) (fun c_2 => ?_)
    · replace h := it_t c_2 h
      refine g_iinc (q := 3) (v := v3 + (1 : Int32)) (lv' := [(3, .int (v3 + (1 : Int32))), (0, .ref (oa (gw Γ) 3)), (1, .int v1), (2, .int v2)]) C dX7_reviewsOfReviewer_22 rfl rfl (by decide) rfl ?_
      refine g_goto (tgt := 4) C dX7_reviewsOfReviewer_25 (by decide) ?_
      refine g_sub [1, 2, 3, 0] rfl ?_
      exact hrec v1 v2 (v3 + (1 : Int32)) m_1 b h hE
    · replace h := it_f c_2 h
      refine g_iinc (q := 2) (v := v2 + (1 : Int32)) (lv' := [(2, .int (v2 + (1 : Int32))), (0, .ref (oa (gw Γ) 3)), (1, .int v1), (3, .int v3)]) C dX7_reviewsOfReviewer_19 rfl rfl (by decide) rfl ?_
      refine g_iinc (q := 3) (v := v3 + (1 : Int32)) (lv' := [(3, .int (v3 + (1 : Int32))), (2, .int (v2 + (1 : Int32))), (0, .ref (oa (gw Γ) 3)), (1, .int v1)]) C dX7_reviewsOfReviewer_22 rfl rfl (by decide) rfl ?_
      refine g_goto (tgt := 4) C dX7_reviewsOfReviewer_25 (by decide) ?_
      refine g_sub [2, 3, 1, 0] rfl ?_
      exact hrec v1 (v2 + (1 : Int32)) (v3 + (1 : Int32)) m_1 b h hE
theorem lt_X7_reviewsOfReviewer_4 (N : Nat) (Γ : Gc) (C : Cx Γ cX7_reviewsOfReviewer 4 RX7 (rmK 3 65 0)) : ∀ (n : Nat) (v1 : Int32) (v2 : Int32) (v3 : Int32) (m : Mem) (b : Int32 × Mem), L_X7_reviewsOfReviewer_4 N n v1 v2 v3 m = some b → Ex_X7_reviewsOfReviewer_4 Γ 0 b → G Γ 4 0 m 4 [(0, .ref (oa (gw Γ) 3)), (1, .int v1), (2, .int v2), (3, .int v3)] [] := by
  intro n
  induction n with
  | zero =>
    intro v1 v2 v3 m b h
    have h9 : (none : Option (Int32 × Mem)) = some b := h
    cases h9
  | succ n ih => intro v1 v2 v3 m b h hE; exact t_X7_reviewsOfReviewer_4 N Γ C (L_X7_reviewsOfReviewer_4 N n) b hE ih v1 v2 v3 m h
set_option maxRecDepth 100000 in
set_option maxHeartbeats 4000000 in
theorem t_X7_reviewsOfReviewer (N : Nat) (Γ : Gc) (C : Cx Γ cX7_reviewsOfReviewer 4 RX7 (rmK 3 65 0)) (v1 : Int32) (m : Mem) (b : Int32 × Mem) (h : f_X7_reviewsOfReviewer N v1 m = some b) (hE : EIn Γ 4 cX7_reviewsOfReviewer b) : G Γ 4 0 m 0 [(0, .ref (oa (gw Γ) 3)), (1, .int v1)] [] := by
  unfold f_X7_reviewsOfReviewer at h
  refine g_iconst (v := (0 : Int32)) C dX7_reviewsOfReviewer_0 (by decide) ?_
  refine g_istore_n (lv' := [(2, .int (0 : Int32)), (0, .ref (oa (gw Γ) 3)), (1, .int v1)]) C dX7_reviewsOfReviewer_1 rfl (by decide) rfl ?_
  refine g_iconst (v := (0 : Int32)) C dX7_reviewsOfReviewer_2 (by decide) ?_
  refine g_istore_n (lv' := [(3, .int (0 : Int32)), (2, .int (0 : Int32)), (0, .ref (oa (gw Γ) 3)), (1, .int v1)]) C dX7_reviewsOfReviewer_3 rfl (by decide) rfl ?_
  obtain ⟨v2_4, m_4, hx, h⟩ := l2_some h
  refine g_sub [2, 3, 1, 0] rfl ?_
  refine lt_X7_reviewsOfReviewer_4 N Γ C N v1 (0 : Int32) (0 : Int32) m _ hx ?_
  intro z2 m9 e9
  cases e9
  refine g_iload_n C dX7_reviewsOfReviewer_28 0 rfl rfl ?_
  obtain rfl := Option.some.inj h
  exact hE 29 _ dX7_reviewsOfReviewer_29
theorem c_X7_reviewsOfReviewer (N : Nat) (l : Launch) (hst : l.stackTraces = false) (w : Om) (v1 : Int32) (m : Mem) (o : Int32 × Mem) (h : f_X7_reviewsOfReviewer N v1 m = some o) : KI l yX7_reviewsOfReviewer cX7_reviewsOfReviewer 4 (some .int) 3 65 w [.ref (oa w 3), .int v1] m o.1 o.2 := KI_of hst (by decide +kernel) RX7 rfl (Nat.le_of_ble_eq_true rfl) (fun Γ hw hl C hE => by
  subst hw; subst hl
  exact t_X7_reviewsOfReviewer N Γ C v1 m o h hE)
def Ex_X7_reviewsOfProposal_4 (Γ : Gc) (cs : Nat) (b : Int32 × Mem) : Prop := (∀ (y2 : Int32) (m' : Mem), b = (y2, m') → G Γ 4 cs m' 28 [(2, .int y2)] [])
set_option maxRecDepth 100000 in
set_option maxHeartbeats 4000000 in
theorem t_X7_reviewsOfProposal_4 (N : Nat) (Γ : Gc) (C : Cx Γ cX7_reviewsOfProposal 4 RX7 (rmK 3 65 0)) (rc : Int32 → Int32 → Int32 → Mem → Option (Int32 × Mem)) (b : Int32 × Mem) (hE : Ex_X7_reviewsOfProposal_4 Γ 0 b) (hrec : ∀ (v1 : Int32) (v2 : Int32) (v3 : Int32) (m : Mem) (b : Int32 × Mem), rc v1 v2 v3 m = some b → Ex_X7_reviewsOfProposal_4 Γ 0 b → G Γ 4 0 m 4 [(0, .ref (oa (gw Γ) 3)), (1, .int v1), (2, .int v2), (3, .int v3)] []) (v1 : Int32) (v2 : Int32) (v3 : Int32) (m : Mem) (h : T_X7_reviewsOfProposal_4 N rc v1 v2 v3 m = some b) : G Γ 4 0 m 4 [(0, .ref (oa (gw Γ) 3)), (1, .int v1), (2, .int v2), (3, .int v3)] [] := by
  unfold T_X7_reviewsOfProposal_4 at h
  refine g_iload_n C dX7_reviewsOfProposal_4 3 rfl rfl ?_
  refine g_bipush (v := (12 : Int32)) C dX7_reviewsOfProposal_5 (by decide) ?_
  refine g_icmp_ge (tgt := 28) C dX7_reviewsOfProposal_7 (by decide) (fun c_3 => ?_) (fun c_3 => ?_)
  · replace h := it_t c_3 h
    obtain rfl := Option.some.inj h
    refine g_sub [2] rfl ?_
    exact hE _ _ rfl
  · replace h := it_f c_3 h
    refine g_aload_n C dX7_reviewsOfProposal_10 0 rfl rfl ?_
    refine g_iload_n C dX7_reviewsOfProposal_11 3 rfl rfl ?_
    refine g_iload_n C dX7_reviewsOfProposal_12 1 rfl rfl ?_
    obtain ⟨r_1, m_1, hk_1, h⟩ := b2_some h
    refine g_vI (As := [.int v3, .int v1]) (a := 3) (ci := 7) C dX7_reviewsOfProposal_13 mf_X7_hasReview k_222 rfl (by decide) ⟨by decide, by decide⟩ rfl rfl (Nat.le_of_ble_eq_true rfl) (by decide) rfl (c_X7_hasReview N (gl Γ) C.2.2.2.2 (gw Γ) v3 v1 m _ hk_1) ?_
    refine g_if_eq (tgt := 22) C dX7_reviewsOfProposal_16 (by decide) (fun c_2 => ?_) (fun c_2 => ?_)
    · replace h := it_t c_2 h
      refine g_iinc (q := 3) (v := v3 + (1 : Int32)) (lv' := [(3, .int (v3 + (1 : Int32))), (0, .ref (oa (gw Γ) 3)), (1, .int v1), (2, .int v2)]) C dX7_reviewsOfProposal_22 rfl rfl (by decide) rfl ?_
      refine g_goto (tgt := 4) C dX7_reviewsOfProposal_25 (by decide) ?_
      refine g_sub [1, 2, 3, 0] rfl ?_
      exact hrec v1 v2 (v3 + (1 : Int32)) m_1 b h hE
    · replace h := it_f c_2 h
      refine g_iinc (q := 2) (v := v2 + (1 : Int32)) (lv' := [(2, .int (v2 + (1 : Int32))), (0, .ref (oa (gw Γ) 3)), (1, .int v1), (3, .int v3)]) C dX7_reviewsOfProposal_19 rfl rfl (by decide) rfl ?_
      refine g_iinc (q := 3) (v := v3 + (1 : Int32)) (lv' := [(3, .int (v3 + (1 : Int32))), (2, .int (v2 + (1 : Int32))), (0, .ref (oa (gw Γ) 3)), (1, .int v1)]) C dX7_reviewsOfProposal_22 rfl rfl (by decide) rfl ?_
      refine g_goto (tgt := 4) C dX7_reviewsOfProposal_25 (by decide) ?_
      refine g_sub [2, 3, 1, 0] rfl ?_
      exact hrec v1 (v2 + (1 : Int32)) (v3 + (1 : Int32)) m_1 b h hE
theorem lt_X7_reviewsOfProposal_4 (N : Nat) (Γ : Gc) (C : Cx Γ cX7_reviewsOfProposal 4 RX7 (rmK 3 65 0)) : ∀ (n : Nat) (v1 : Int32) (v2 : Int32) (v3 : Int32) (m : Mem) (b : Int32 × Mem), L_X7_reviewsOfProposal_4 N n v1 v2 v3 m = some b → Ex_X7_reviewsOfProposal_4 Γ 0 b → G Γ 4 0 m 4 [(0, .ref (oa (gw Γ) 3)), (1, .int v1), (2, .int v2), (3, .int v3)] [] := by
  intro n
  induction n with
  | zero =>
    intro v1 v2 v3 m b h
    have h9 : (none : Option (Int32 × Mem)) = some b := h
    cases h9
  | succ n ih => intro v1 v2 v3 m b h hE; exact t_X7_reviewsOfProposal_4 N Γ C (L_X7_reviewsOfProposal_4 N n) b hE ih v1 v2 v3 m h
set_option maxRecDepth 100000 in
set_option maxHeartbeats 4000000 in
theorem t_X7_reviewsOfProposal (N : Nat) (Γ : Gc) (C : Cx Γ cX7_reviewsOfProposal 4 RX7 (rmK 3 65 0)) (v1 : Int32) (m : Mem) (b : Int32 × Mem) (h : f_X7_reviewsOfProposal N v1 m = some b) (hE : EIn Γ 4 cX7_reviewsOfProposal b) : G Γ 4 0 m 0 [(0, .ref (oa (gw Γ) 3)), (1, .int v1)] [] := by
  unfold f_X7_reviewsOfProposal at h
  refine g_iconst (v := (0 : Int32)) C dX7_reviewsOfProposal_0 (by decide) ?_
  refine g_istore_n (lv' := [(2, .int (0 : Int32)), (0, .ref (oa (gw Γ) 3)), (1, .int v1)]) C dX7_reviewsOfProposal_1 rfl (by decide) rfl ?_
  refine g_iconst (v := (0 : Int32)) C dX7_reviewsOfProposal_2 (by decide) ?_
  refine g_istore_n (lv' := [(3, .int (0 : Int32)), (2, .int (0 : Int32)), (0, .ref (oa (gw Γ) 3)), (1, .int v1)]) C dX7_reviewsOfProposal_3 rfl (by decide) rfl ?_
  obtain ⟨v2_4, m_4, hx, h⟩ := l2_some h
  refine g_sub [2, 3, 1, 0] rfl ?_
  refine lt_X7_reviewsOfProposal_4 N Γ C N v1 (0 : Int32) (0 : Int32) m _ hx ?_
  intro z2 m9 e9
  cases e9
  refine g_iload_n C dX7_reviewsOfProposal_28 0 rfl rfl ?_
  obtain rfl := Option.some.inj h
  exact hE 29 _ dX7_reviewsOfProposal_29
theorem c_X7_reviewsOfProposal (N : Nat) (l : Launch) (hst : l.stackTraces = false) (w : Om) (v1 : Int32) (m : Mem) (o : Int32 × Mem) (h : f_X7_reviewsOfProposal N v1 m = some o) : KI l yX7_reviewsOfProposal cX7_reviewsOfProposal 4 (some .int) 3 65 w [.ref (oa w 3), .int v1] m o.1 o.2 := KI_of hst (by decide +kernel) RX7 rfl (Nat.le_of_ble_eq_true rfl) (fun Γ hw hl C hE => by
  subst hw; subst hl
  exact t_X7_reviewsOfProposal N Γ C v1 m o h hE)
def Ex_X7_countReviews_13 (Γ : Gc) (cs : Nat) (b : Int32 × Mem) : Prop := (∀ (y1 : Int32) (m' : Mem), b = (y1, m') → G Γ 6 cs m' 39 [(1, .int y1)] [])
set_option maxRecDepth 100000 in
set_option maxHeartbeats 4000000 in
theorem t_X7_countReviews_13 (N : Nat) (Γ : Gc) (C : Cx Γ cX7_countReviews 6 RX7 (rmK 0 0 0)) (rc : Int32 → Nat → Int32 → Int32 → Mem → Option (Int32 × Mem)) (b : Int32 × Mem) (hE : Ex_X7_countReviews_13 Γ 0 b) (hrec : ∀ (v1 : Int32) (v2 : Nat) (v3 : Int32) (v4 : Int32) (m : Mem) (b : Int32 × Mem), rc v1 v2 v3 v4 m = some b → Ex_X7_countReviews_13 Γ 0 b → G Γ 6 0 m 13 [(1, .int v1), (2, .ref (oa (gw Γ) v2)), (3, .int v3), (4, .int v4)] []) (v1 : Int32) (v2 : Nat) (v3 : Int32) (v4 : Int32) (m : Mem) (h : T_X7_countReviews_13 N rc v1 v2 v3 v4 m = some b) : G Γ 6 0 m 13 [(1, .int v1), (2, .ref (oa (gw Γ) v2)), (3, .int v3), (4, .int v4)] [] := by
  unfold T_X7_countReviews_13 at h
  refine g_iload C dX7_countReviews_13 3 rfl ?_
  refine g_iload_n C dX7_countReviews_15 2 rfl rfl ?_
  refine g_icmp_ge (tgt := 39) C dX7_countReviews_16 (by decide) (fun c_3 => ?_) (fun c_3 => ?_)
  · replace h := it_t c_3 h
    obtain rfl := Option.some.inj h
    refine g_sub [0] rfl ?_
    exact hE _ _ rfl
  · replace h := it_f c_3 h
    refine g_aload_n C dX7_countReviews_19 1 rfl rfl ?_
    refine g_iload C dX7_countReviews_20 3 rfl ?_
    obtain ⟨g_1, h⟩ := gd_some h
    refine g_iald C dX7_countReviews_22 g_1 ?_
    refine g_istore (lv' := [(5, .int (gI m v2 v4.toNatClampNeg)), (1, .int v1), (2, .ref (oa (gw Γ) v2)), (3, .int v3), (4, .int v4)]) C dX7_countReviews_23 (by decide) rfl ?_
    refine g_iload C dX7_countReviews_25 0 rfl ?_
    refine g_if_eq (tgt := 33) C dX7_countReviews_27 (by decide) (fun c_2 => ?_) (fun c_2 => ?_)
    · replace h := it_t c_2 h
      refine g_iinc (q := 4) (v := v4 + (1 : Int32)) (lv' := [(4, .int (v4 + (1 : Int32))), (5, .int (gI m v2 v4.toNatClampNeg)), (1, .int v1), (2, .ref (oa (gw Γ) v2)), (3, .int v3)]) C dX7_countReviews_33 rfl rfl (by decide) rfl ?_
      refine g_goto (tgt := 13) C dX7_countReviews_36 (by decide) ?_
      refine g_sub [2, 3, 4, 0] rfl ?_
      exact hrec v1 v2 v3 (v4 + (1 : Int32)) m b h hE
    · replace h := it_f c_2 h
      refine g_iinc (q := 1) (v := v1 + (1 : Int32)) (lv' := [(1, .int (v1 + (1 : Int32))), (5, .int (gI m v2 v4.toNatClampNeg)), (2, .ref (oa (gw Γ) v2)), (3, .int v3), (4, .int v4)]) C dX7_countReviews_30 rfl rfl (by decide) rfl ?_
      refine g_iinc (q := 4) (v := v4 + (1 : Int32)) (lv' := [(4, .int (v4 + (1 : Int32))), (1, .int (v1 + (1 : Int32))), (5, .int (gI m v2 v4.toNatClampNeg)), (2, .ref (oa (gw Γ) v2)), (3, .int v3)]) C dX7_countReviews_33 rfl rfl (by decide) rfl ?_
      refine g_goto (tgt := 13) C dX7_countReviews_36 (by decide) ?_
      refine g_sub [1, 3, 4, 0] rfl ?_
      exact hrec (v1 + (1 : Int32)) v2 v3 (v4 + (1 : Int32)) m b h hE
theorem lt_X7_countReviews_13 (N : Nat) (Γ : Gc) (C : Cx Γ cX7_countReviews 6 RX7 (rmK 0 0 0)) : ∀ (n : Nat) (v1 : Int32) (v2 : Nat) (v3 : Int32) (v4 : Int32) (m : Mem) (b : Int32 × Mem), L_X7_countReviews_13 N n v1 v2 v3 v4 m = some b → Ex_X7_countReviews_13 Γ 0 b → G Γ 6 0 m 13 [(1, .int v1), (2, .ref (oa (gw Γ) v2)), (3, .int v3), (4, .int v4)] [] := by
  intro n
  induction n with
  | zero =>
    intro v1 v2 v3 v4 m b h
    have h9 : (none : Option (Int32 × Mem)) = some b := h
    cases h9
  | succ n ih => intro v1 v2 v3 v4 m b h hE; exact t_X7_countReviews_13 N Γ C (L_X7_countReviews_13 N n) b hE ih v1 v2 v3 v4 m h
set_option maxRecDepth 100000 in
set_option maxHeartbeats 4000000 in
theorem t_X7_countReviews (N : Nat) (Γ : Gc) (C : Cx Γ cX7_countReviews 6 RX7 (rmK 0 0 0))  (m : Mem) (b : Int32 × Mem) (h : f_X7_countReviews N  m = some b) (hE : EIn Γ 6 cX7_countReviews b) : G Γ 6 0 m 0 [(0, .ref (oa (gw Γ) 3))] [] := by
  unfold f_X7_countReviews at h
  refine g_iconst (v := (0 : Int32)) C dX7_countReviews_0 (by decide) ?_
  refine g_istore_n (lv' := [(1, .int (0 : Int32)), (0, .ref (oa (gw Γ) 3))]) C dX7_countReviews_1 rfl (by decide) rfl ?_
  refine g_aload_n C dX7_countReviews_2 1 rfl rfl ?_
  refine g_getT (b := 4) (ci := 7) (j := 0) C dX7_countReviews_3 rfl (by decide) rfl inT_X7 (by decide) k_44 rfl rfl rfl rfl ?_
  refine g_astore_n (lv' := [(2, .ref (oa (gw Γ) 4)), (1, .int (0 : Int32)), (0, .ref (oa (gw Γ) 3))]) C dX7_countReviews_6 rfl (by decide) rfl ?_
  refine g_aload_n C dX7_countReviews_7 0 rfl rfl ?_
  refine g_alen' (v := (192 : Int32)) C dX7_countReviews_8 rfl (by decide) ?_
  refine g_istore_n (lv' := [(3, .int (192 : Int32)), (2, .ref (oa (gw Γ) 4)), (1, .int (0 : Int32)), (0, .ref (oa (gw Γ) 3))]) C dX7_countReviews_9 rfl (by decide) rfl ?_
  refine g_iconst (v := (0 : Int32)) C dX7_countReviews_10 (by decide) ?_
  refine g_istore (lv' := [(4, .int (0 : Int32)), (3, .int (192 : Int32)), (2, .ref (oa (gw Γ) 4)), (1, .int (0 : Int32)), (0, .ref (oa (gw Γ) 3))]) C dX7_countReviews_11 (by decide) rfl ?_
  obtain ⟨v1_4, m_4, hx, h⟩ := l2_some h
  refine g_sub [3, 2, 1, 0] rfl ?_
  refine lt_X7_countReviews_13 N Γ C N (0 : Int32) 4 (192 : Int32) (0 : Int32) m _ hx ?_
  intro z1 m9 e9
  cases e9
  refine g_iload_n C dX7_countReviews_39 0 rfl rfl ?_
  obtain rfl := Option.some.inj h
  exact hE 40 _ dX7_countReviews_40
theorem c_X7_countReviews (N : Nat) (l : Launch) (hst : l.stackTraces = false) (w : Om)  (m : Mem) (o : Int32 × Mem) (h : f_X7_countReviews N  m = some o) : KI l yX7_countReviews cX7_countReviews 6 (some .int) 0 0 w [.ref (oa w 3)] m o.1 o.2 := KI_of hst (by decide +kernel) RX7 rfl (Nat.le_of_ble_eq_true rfl) (fun Γ hw hl C hE => by
  subst hw; subst hl
  exact t_X7_countReviews N Γ C  m o h hE)
def Ex_X7_countScores_13 (Γ : Gc) (cs : Nat) (b : Int32 × Mem) : Prop := (∀ (y1 : Int32) (m' : Mem), b = (y1, m') → G Γ 6 cs m' 39 [(1, .int y1)] [])
set_option maxRecDepth 100000 in
set_option maxHeartbeats 4000000 in
theorem t_X7_countScores_13 (N : Nat) (Γ : Gc) (C : Cx Γ cX7_countScores 6 RX7 (rmK 0 0 0)) (rc : Int32 → Nat → Int32 → Int32 → Mem → Option (Int32 × Mem)) (b : Int32 × Mem) (hE : Ex_X7_countScores_13 Γ 0 b) (hrec : ∀ (v1 : Int32) (v2 : Nat) (v3 : Int32) (v4 : Int32) (m : Mem) (b : Int32 × Mem), rc v1 v2 v3 v4 m = some b → Ex_X7_countScores_13 Γ 0 b → G Γ 6 0 m 13 [(1, .int v1), (2, .ref (oa (gw Γ) v2)), (3, .int v3), (4, .int v4)] []) (v1 : Int32) (v2 : Nat) (v3 : Int32) (v4 : Int32) (m : Mem) (h : T_X7_countScores_13 N rc v1 v2 v3 v4 m = some b) : G Γ 6 0 m 13 [(1, .int v1), (2, .ref (oa (gw Γ) v2)), (3, .int v3), (4, .int v4)] [] := by
  unfold T_X7_countScores_13 at h
  refine g_iload C dX7_countScores_13 3 rfl ?_
  refine g_iload_n C dX7_countScores_15 2 rfl rfl ?_
  refine g_icmp_ge (tgt := 39) C dX7_countScores_16 (by decide) (fun c_3 => ?_) (fun c_3 => ?_)
  · replace h := it_t c_3 h
    obtain rfl := Option.some.inj h
    refine g_sub [0] rfl ?_
    exact hE _ _ rfl
  · replace h := it_f c_3 h
    refine g_aload_n C dX7_countScores_19 1 rfl rfl ?_
    refine g_iload C dX7_countScores_20 3 rfl ?_
    obtain ⟨g_1, h⟩ := gd_some h
    refine g_iald C dX7_countScores_22 g_1 ?_
    refine g_istore (lv' := [(5, .int (gI m v2 v4.toNatClampNeg)), (1, .int v1), (2, .ref (oa (gw Γ) v2)), (3, .int v3), (4, .int v4)]) C dX7_countScores_23 (by decide) rfl ?_
    refine g_iload C dX7_countScores_25 0 rfl ?_
    refine g_if_le (tgt := 33) C dX7_countScores_27 (by decide) (fun c_2 => ?_) (fun c_2 => ?_)
    · replace h := it_t c_2 h
      refine g_iinc (q := 4) (v := v4 + (1 : Int32)) (lv' := [(4, .int (v4 + (1 : Int32))), (5, .int (gI m v2 v4.toNatClampNeg)), (1, .int v1), (2, .ref (oa (gw Γ) v2)), (3, .int v3)]) C dX7_countScores_33 rfl rfl (by decide) rfl ?_
      refine g_goto (tgt := 13) C dX7_countScores_36 (by decide) ?_
      refine g_sub [2, 3, 4, 0] rfl ?_
      exact hrec v1 v2 v3 (v4 + (1 : Int32)) m b h hE
    · replace h := it_f c_2 h
      refine g_iinc (q := 1) (v := v1 + (1 : Int32)) (lv' := [(1, .int (v1 + (1 : Int32))), (5, .int (gI m v2 v4.toNatClampNeg)), (2, .ref (oa (gw Γ) v2)), (3, .int v3), (4, .int v4)]) C dX7_countScores_30 rfl rfl (by decide) rfl ?_
      refine g_iinc (q := 4) (v := v4 + (1 : Int32)) (lv' := [(4, .int (v4 + (1 : Int32))), (1, .int (v1 + (1 : Int32))), (5, .int (gI m v2 v4.toNatClampNeg)), (2, .ref (oa (gw Γ) v2)), (3, .int v3)]) C dX7_countScores_33 rfl rfl (by decide) rfl ?_
      refine g_goto (tgt := 13) C dX7_countScores_36 (by decide) ?_
      refine g_sub [1, 3, 4, 0] rfl ?_
      exact hrec (v1 + (1 : Int32)) v2 v3 (v4 + (1 : Int32)) m b h hE
theorem lt_X7_countScores_13 (N : Nat) (Γ : Gc) (C : Cx Γ cX7_countScores 6 RX7 (rmK 0 0 0)) : ∀ (n : Nat) (v1 : Int32) (v2 : Nat) (v3 : Int32) (v4 : Int32) (m : Mem) (b : Int32 × Mem), L_X7_countScores_13 N n v1 v2 v3 v4 m = some b → Ex_X7_countScores_13 Γ 0 b → G Γ 6 0 m 13 [(1, .int v1), (2, .ref (oa (gw Γ) v2)), (3, .int v3), (4, .int v4)] [] := by
  intro n
  induction n with
  | zero =>
    intro v1 v2 v3 v4 m b h
    have h9 : (none : Option (Int32 × Mem)) = some b := h
    cases h9
  | succ n ih => intro v1 v2 v3 v4 m b h hE; exact t_X7_countScores_13 N Γ C (L_X7_countScores_13 N n) b hE ih v1 v2 v3 v4 m h
set_option maxRecDepth 100000 in
set_option maxHeartbeats 4000000 in
theorem t_X7_countScores (N : Nat) (Γ : Gc) (C : Cx Γ cX7_countScores 6 RX7 (rmK 0 0 0))  (m : Mem) (b : Int32 × Mem) (h : f_X7_countScores N  m = some b) (hE : EIn Γ 6 cX7_countScores b) : G Γ 6 0 m 0 [(0, .ref (oa (gw Γ) 3))] [] := by
  unfold f_X7_countScores at h
  refine g_iconst (v := (0 : Int32)) C dX7_countScores_0 (by decide) ?_
  refine g_istore_n (lv' := [(1, .int (0 : Int32)), (0, .ref (oa (gw Γ) 3))]) C dX7_countScores_1 rfl (by decide) rfl ?_
  refine g_aload_n C dX7_countScores_2 1 rfl rfl ?_
  refine g_getT (b := 4) (ci := 7) (j := 0) C dX7_countScores_3 rfl (by decide) rfl inT_X7 (by decide) k_44 rfl rfl rfl rfl ?_
  refine g_astore_n (lv' := [(2, .ref (oa (gw Γ) 4)), (1, .int (0 : Int32)), (0, .ref (oa (gw Γ) 3))]) C dX7_countScores_6 rfl (by decide) rfl ?_
  refine g_aload_n C dX7_countScores_7 0 rfl rfl ?_
  refine g_alen' (v := (192 : Int32)) C dX7_countScores_8 rfl (by decide) ?_
  refine g_istore_n (lv' := [(3, .int (192 : Int32)), (2, .ref (oa (gw Γ) 4)), (1, .int (0 : Int32)), (0, .ref (oa (gw Γ) 3))]) C dX7_countScores_9 rfl (by decide) rfl ?_
  refine g_iconst (v := (0 : Int32)) C dX7_countScores_10 (by decide) ?_
  refine g_istore (lv' := [(4, .int (0 : Int32)), (3, .int (192 : Int32)), (2, .ref (oa (gw Γ) 4)), (1, .int (0 : Int32)), (0, .ref (oa (gw Γ) 3))]) C dX7_countScores_11 (by decide) rfl ?_
  obtain ⟨v1_4, m_4, hx, h⟩ := l2_some h
  refine g_sub [3, 2, 1, 0] rfl ?_
  refine lt_X7_countScores_13 N Γ C N (0 : Int32) 4 (192 : Int32) (0 : Int32) m _ hx ?_
  intro z1 m9 e9
  cases e9
  refine g_iload_n C dX7_countScores_39 0 rfl rfl ?_
  obtain rfl := Option.some.inj h
  exact hE 40 _ dX7_countScores_40
theorem c_X7_countScores (N : Nat) (l : Launch) (hst : l.stackTraces = false) (w : Om)  (m : Mem) (o : Int32 × Mem) (h : f_X7_countScores N  m = some o) : KI l yX7_countScores cX7_countScores 6 (some .int) 0 0 w [.ref (oa w 3)] m o.1 o.2 := KI_of hst (by decide +kernel) RX7 rfl (Nat.le_of_ble_eq_true rfl) (fun Γ hw hl C hE => by
  subst hw; subst hl
  exact t_X7_countScores N Γ C  m o h hE)
set_option maxRecDepth 100000 in
set_option maxHeartbeats 4000000 in
theorem t_J6_bitCount_0f7a4 (N : Nat) (Γ : Gc) (C : Cx Γ cJ6_bitCount_0f7a4 1 RJ6 (rmK 0 0 0)) (v0 : Int32) (m : Mem) (b : Int32 × Mem) (h : f_J6_bitCount_0f7a4 N v0 m = some b) (hE : EIn Γ 1 cJ6_bitCount_0f7a4 b) : G Γ 1 0 m 0 [(0, .int v0)] [] := by
  unfold f_J6_bitCount_0f7a4 at h
  refine g_iload_n C dJ6_bitCount_0f7a4_0 0 rfl rfl ?_
  refine g_iload_n C dJ6_bitCount_0f7a4_1 0 rfl rfl ?_
  refine g_iconst (v := (1 : Int32)) C dJ6_bitCount_0f7a4_2 (by decide) ?_
  refine g_iushr C dJ6_bitCount_0f7a4_3 ?_
  refine g_ldc_w (v := (1431655765 : Int32)) C dJ6_bitCount_0f7a4_4 k_226 ?_
  refine g_iand C dJ6_bitCount_0f7a4_7 ?_
  refine g_isub C dJ6_bitCount_0f7a4_8 ?_
  refine g_istore_n (lv' := [(0, .int (v0 - ((iushr v0 (1 : Int32)) &&& (1431655765 : Int32))))]) C dJ6_bitCount_0f7a4_9 rfl (by decide) rfl ?_
  refine g_iload_n C dJ6_bitCount_0f7a4_10 0 rfl rfl ?_
  refine g_ldc_w (v := (858993459 : Int32)) C dJ6_bitCount_0f7a4_11 k_227 ?_
  refine g_iand C dJ6_bitCount_0f7a4_14 ?_
  refine g_iload_n C dJ6_bitCount_0f7a4_15 0 rfl rfl ?_
  refine g_iconst (v := (2 : Int32)) C dJ6_bitCount_0f7a4_16 (by decide) ?_
  refine g_iushr C dJ6_bitCount_0f7a4_17 ?_
  refine g_ldc_w (v := (858993459 : Int32)) C dJ6_bitCount_0f7a4_18 k_227 ?_
  refine g_iand C dJ6_bitCount_0f7a4_21 ?_
  refine g_iadd C dJ6_bitCount_0f7a4_22 ?_
  refine g_istore_n (lv' := [(0, .int (((v0 - ((iushr v0 (1 : Int32)) &&& (1431655765 : Int32))) &&& (858993459 : Int32)) + ((iushr (v0 - ((iushr v0 (1 : Int32)) &&& (1431655765 : Int32))) (2 : Int32)) &&& (858993459 : Int32))))]) C dJ6_bitCount_0f7a4_23 rfl (by decide) rfl ?_
  refine g_iload_n C dJ6_bitCount_0f7a4_24 0 rfl rfl ?_
  refine g_iload_n C dJ6_bitCount_0f7a4_25 0 rfl rfl ?_
  refine g_iconst (v := (4 : Int32)) C dJ6_bitCount_0f7a4_26 (by decide) ?_
  refine g_iushr C dJ6_bitCount_0f7a4_27 ?_
  refine g_iadd C dJ6_bitCount_0f7a4_28 ?_
  refine g_ldc_w (v := (252645135 : Int32)) C dJ6_bitCount_0f7a4_29 k_228 ?_
  refine g_iand C dJ6_bitCount_0f7a4_32 ?_
  refine g_istore_n (lv' := [(0, .int (((((v0 - ((iushr v0 (1 : Int32)) &&& (1431655765 : Int32))) &&& (858993459 : Int32)) + ((iushr (v0 - ((iushr v0 (1 : Int32)) &&& (1431655765 : Int32))) (2 : Int32)) &&& (858993459 : Int32))) + (iushr (((v0 - ((iushr v0 (1 : Int32)) &&& (1431655765 : Int32))) &&& (858993459 : Int32)) + ((iushr (v0 - ((iushr v0 (1 : Int32)) &&& (1431655765 : Int32))) (2 : Int32)) &&& (858993459 : Int32))) (4 : Int32))) &&& (252645135 : Int32)))]) C dJ6_bitCount_0f7a4_33 rfl (by decide) rfl ?_
  refine g_iload_n C dJ6_bitCount_0f7a4_34 0 rfl rfl ?_
  refine g_iload_n C dJ6_bitCount_0f7a4_35 0 rfl rfl ?_
  refine g_bipush (v := (8 : Int32)) C dJ6_bitCount_0f7a4_36 (by decide) ?_
  refine g_iushr C dJ6_bitCount_0f7a4_38 ?_
  refine g_iadd C dJ6_bitCount_0f7a4_39 ?_
  refine g_istore_n (lv' := [(0, .int ((((((v0 - ((iushr v0 (1 : Int32)) &&& (1431655765 : Int32))) &&& (858993459 : Int32)) + ((iushr (v0 - ((iushr v0 (1 : Int32)) &&& (1431655765 : Int32))) (2 : Int32)) &&& (858993459 : Int32))) + (iushr (((v0 - ((iushr v0 (1 : Int32)) &&& (1431655765 : Int32))) &&& (858993459 : Int32)) + ((iushr (v0 - ((iushr v0 (1 : Int32)) &&& (1431655765 : Int32))) (2 : Int32)) &&& (858993459 : Int32))) (4 : Int32))) &&& (252645135 : Int32)) + (iushr (((((v0 - ((iushr v0 (1 : Int32)) &&& (1431655765 : Int32))) &&& (858993459 : Int32)) + ((iushr (v0 - ((iushr v0 (1 : Int32)) &&& (1431655765 : Int32))) (2 : Int32)) &&& (858993459 : Int32))) + (iushr (((v0 - ((iushr v0 (1 : Int32)) &&& (1431655765 : Int32))) &&& (858993459 : Int32)) + ((iushr (v0 - ((iushr v0 (1 : Int32)) &&& (1431655765 : Int32))) (2 : Int32)) &&& (858993459 : Int32))) (4 : Int32))) &&& (252645135 : Int32)) (8 : Int32))))]) C dJ6_bitCount_0f7a4_40 rfl (by decide) rfl ?_
  refine g_iload_n C dJ6_bitCount_0f7a4_41 0 rfl rfl ?_
  refine g_iload_n C dJ6_bitCount_0f7a4_42 0 rfl rfl ?_
  refine g_bipush (v := (16 : Int32)) C dJ6_bitCount_0f7a4_43 (by decide) ?_
  refine g_iushr C dJ6_bitCount_0f7a4_45 ?_
  refine g_iadd C dJ6_bitCount_0f7a4_46 ?_
  refine g_istore_n (lv' := [(0, .int (((((((v0 - ((iushr v0 (1 : Int32)) &&& (1431655765 : Int32))) &&& (858993459 : Int32)) + ((iushr (v0 - ((iushr v0 (1 : Int32)) &&& (1431655765 : Int32))) (2 : Int32)) &&& (858993459 : Int32))) + (iushr (((v0 - ((iushr v0 (1 : Int32)) &&& (1431655765 : Int32))) &&& (858993459 : Int32)) + ((iushr (v0 - ((iushr v0 (1 : Int32)) &&& (1431655765 : Int32))) (2 : Int32)) &&& (858993459 : Int32))) (4 : Int32))) &&& (252645135 : Int32)) + (iushr (((((v0 - ((iushr v0 (1 : Int32)) &&& (1431655765 : Int32))) &&& (858993459 : Int32)) + ((iushr (v0 - ((iushr v0 (1 : Int32)) &&& (1431655765 : Int32))) (2 : Int32)) &&& (858993459 : Int32))) + (iushr (((v0 - ((iushr v0 (1 : Int32)) &&& (1431655765 : Int32))) &&& (858993459 : Int32)) + ((iushr (v0 - ((iushr v0 (1 : Int32)) &&& (1431655765 : Int32))) (2 : Int32)) &&& (858993459 : Int32))) (4 : Int32))) &&& (252645135 : Int32)) (8 : Int32))) + (iushr ((((((v0 - ((iushr v0 (1 : Int32)) &&& (1431655765 : Int32))) &&& (858993459 : Int32)) + ((iushr (v0 - ((iushr v0 (1 : Int32)) &&& (1431655765 : Int32))) (2 : Int32)) &&& (858993459 : Int32))) + (iushr (((v0 - ((iushr v0 (1 : Int32)) &&& (1431655765 : Int32))) &&& (858993459 : Int32)) + ((iushr (v0 - ((iushr v0 (1 : Int32)) &&& (1431655765 : Int32))) (2 : Int32)) &&& (858993459 : Int32))) (4 : Int32))) &&& (252645135 : Int32)) + (iushr (((((v0 - ((iushr v0 (1 : Int32)) &&& (1431655765 : Int32))) &&& (858993459 : Int32)) + ((iushr (v0 - ((iushr v0 (1 : Int32)) &&& (1431655765 : Int32))) (2 : Int32)) &&& (858993459 : Int32))) + (iushr (((v0 - ((iushr v0 (1 : Int32)) &&& (1431655765 : Int32))) &&& (858993459 : Int32)) + ((iushr (v0 - ((iushr v0 (1 : Int32)) &&& (1431655765 : Int32))) (2 : Int32)) &&& (858993459 : Int32))) (4 : Int32))) &&& (252645135 : Int32)) (8 : Int32))) (16 : Int32))))]) C dJ6_bitCount_0f7a4_47 rfl (by decide) rfl ?_
  refine g_iload_n C dJ6_bitCount_0f7a4_48 0 rfl rfl ?_
  refine g_bipush (v := (63 : Int32)) C dJ6_bitCount_0f7a4_49 (by decide) ?_
  refine g_iand C dJ6_bitCount_0f7a4_51 ?_
  obtain rfl := Option.some.inj h
  exact hE 52 _ dJ6_bitCount_0f7a4_52
theorem c_J6_bitCount_0f7a4 (N : Nat) (l : Launch) (hst : l.stackTraces = false) (w : Om) (v0 : Int32) (m : Mem) (o : Int32 × Mem) (h : f_J6_bitCount_0f7a4 N v0 m = some o) : KI l yJ6_bitCount_0f7a4 cJ6_bitCount_0f7a4 1 (some .int) 0 0 w [.int v0] m o.1 o.2 := KI_of hst (by decide +kernel) RJ6 rfl (Nat.le_of_ble_eq_true rfl) (fun Γ hw hl C hE => by
  subst hw; subst hl
  exact t_J6_bitCount_0f7a4 N Γ C v0 m o h hE)
def Ex_X7_countDeclared_13 (Γ : Gc) (cs : Nat) (b : Int32 × Mem) : Prop := (∀ (y1 : Int32) (m' : Mem), b = (y1, m') → G Γ 6 cs m' 39 [(1, .int y1)] [])
set_option maxRecDepth 100000 in
set_option maxHeartbeats 4000000 in
theorem t_X7_countDeclared_13 (N : Nat) (Γ : Gc) (C : Cx Γ cX7_countDeclared 6 RX7 (rmK 1 20 0)) (rc : Int32 → Nat → Int32 → Int32 → Mem → Option (Int32 × Mem)) (b : Int32 × Mem) (hE : Ex_X7_countDeclared_13 Γ 0 b) (hrec : ∀ (v1 : Int32) (v2 : Nat) (v3 : Int32) (v4 : Int32) (m : Mem) (b : Int32 × Mem), rc v1 v2 v3 v4 m = some b → Ex_X7_countDeclared_13 Γ 0 b → G Γ 6 0 m 13 [(1, .int v1), (2, .ref (oa (gw Γ) v2)), (3, .int v3), (4, .int v4)] []) (v1 : Int32) (v2 : Nat) (v3 : Int32) (v4 : Int32) (m : Mem) (h : T_X7_countDeclared_13 N rc v1 v2 v3 v4 m = some b) : G Γ 6 0 m 13 [(1, .int v1), (2, .ref (oa (gw Γ) v2)), (3, .int v3), (4, .int v4)] [] := by
  unfold T_X7_countDeclared_13 at h
  refine g_iload C dX7_countDeclared_13 3 rfl ?_
  refine g_iload_n C dX7_countDeclared_15 2 rfl rfl ?_
  refine g_icmp_ge (tgt := 39) C dX7_countDeclared_16 (by decide) (fun c_3 => ?_) (fun c_3 => ?_)
  · replace h := it_t c_3 h
    obtain rfl := Option.some.inj h
    refine g_sub [0] rfl ?_
    exact hE _ _ rfl
  · replace h := it_f c_3 h
    refine g_aload_n C dX7_countDeclared_19 1 rfl rfl ?_
    refine g_iload C dX7_countDeclared_20 3 rfl ?_
    obtain ⟨g_1, h⟩ := gd_some h
    refine g_iald C dX7_countDeclared_22 g_1 ?_
    refine g_istore (lv' := [(5, .int (gI m v2 v4.toNatClampNeg)), (1, .int v1), (2, .ref (oa (gw Γ) v2)), (3, .int v3), (4, .int v4)]) C dX7_countDeclared_23 (by decide) rfl ?_
    refine g_iload_n C dX7_countDeclared_25 1 rfl rfl ?_
    refine g_iload C dX7_countDeclared_26 0 rfl ?_
    obtain ⟨r_2, m_2, hk_2, h⟩ := b2_some h
    refine g_sI (As := [.int (gI m v2 v4.toNatClampNeg)]) C dX7_countDeclared_28 mf_J6_bitCount_0f7a4 k_229 ⟨by decide, by decide⟩ rfl rfl (Nat.le_of_ble_eq_true rfl) (by decide) (c_J6_bitCount_0f7a4 N (gl Γ) C.2.2.2.2 (gw Γ) (gI m v2 v4.toNatClampNeg) m _ hk_2) ?_
    refine g_iadd C dX7_countDeclared_31 ?_
    refine g_istore_n (lv' := [(1, .int (v1 + r_2)), (5, .int (gI m v2 v4.toNatClampNeg)), (2, .ref (oa (gw Γ) v2)), (3, .int v3), (4, .int v4)]) C dX7_countDeclared_32 rfl (by decide) rfl ?_
    refine g_iinc (q := 4) (v := v4 + (1 : Int32)) (lv' := [(4, .int (v4 + (1 : Int32))), (1, .int (v1 + r_2)), (5, .int (gI m v2 v4.toNatClampNeg)), (2, .ref (oa (gw Γ) v2)), (3, .int v3)]) C dX7_countDeclared_33 rfl rfl (by decide) rfl ?_
    refine g_goto (tgt := 13) C dX7_countDeclared_36 (by decide) ?_
    refine g_sub [1, 3, 4, 0] rfl ?_
    exact hrec (v1 + r_2) v2 v3 (v4 + (1 : Int32)) m_2 b h hE
theorem lt_X7_countDeclared_13 (N : Nat) (Γ : Gc) (C : Cx Γ cX7_countDeclared 6 RX7 (rmK 1 20 0)) : ∀ (n : Nat) (v1 : Int32) (v2 : Nat) (v3 : Int32) (v4 : Int32) (m : Mem) (b : Int32 × Mem), L_X7_countDeclared_13 N n v1 v2 v3 v4 m = some b → Ex_X7_countDeclared_13 Γ 0 b → G Γ 6 0 m 13 [(1, .int v1), (2, .ref (oa (gw Γ) v2)), (3, .int v3), (4, .int v4)] [] := by
  intro n
  induction n with
  | zero =>
    intro v1 v2 v3 v4 m b h
    have h9 : (none : Option (Int32 × Mem)) = some b := h
    cases h9
  | succ n ih => intro v1 v2 v3 v4 m b h hE; exact t_X7_countDeclared_13 N Γ C (L_X7_countDeclared_13 N n) b hE ih v1 v2 v3 v4 m h
set_option maxRecDepth 100000 in
set_option maxHeartbeats 4000000 in
theorem t_X7_countDeclared (N : Nat) (Γ : Gc) (C : Cx Γ cX7_countDeclared 6 RX7 (rmK 1 20 0))  (m : Mem) (b : Int32 × Mem) (h : f_X7_countDeclared N  m = some b) (hE : EIn Γ 6 cX7_countDeclared b) : G Γ 6 0 m 0 [(0, .ref (oa (gw Γ) 3))] [] := by
  unfold f_X7_countDeclared at h
  refine g_iconst (v := (0 : Int32)) C dX7_countDeclared_0 (by decide) ?_
  refine g_istore_n (lv' := [(1, .int (0 : Int32)), (0, .ref (oa (gw Γ) 3))]) C dX7_countDeclared_1 rfl (by decide) rfl ?_
  refine g_aload_n C dX7_countDeclared_2 1 rfl rfl ?_
  refine g_getT (b := 5) (ci := 7) (j := 1) C dX7_countDeclared_3 rfl (by decide) rfl inT_X7 (by decide) k_49 rfl rfl rfl rfl ?_
  refine g_astore_n (lv' := [(2, .ref (oa (gw Γ) 5)), (1, .int (0 : Int32)), (0, .ref (oa (gw Γ) 3))]) C dX7_countDeclared_6 rfl (by decide) rfl ?_
  refine g_aload_n C dX7_countDeclared_7 0 rfl rfl ?_
  refine g_alen' (v := (12 : Int32)) C dX7_countDeclared_8 rfl (by decide) ?_
  refine g_istore_n (lv' := [(3, .int (12 : Int32)), (2, .ref (oa (gw Γ) 5)), (1, .int (0 : Int32)), (0, .ref (oa (gw Γ) 3))]) C dX7_countDeclared_9 rfl (by decide) rfl ?_
  refine g_iconst (v := (0 : Int32)) C dX7_countDeclared_10 (by decide) ?_
  refine g_istore (lv' := [(4, .int (0 : Int32)), (3, .int (12 : Int32)), (2, .ref (oa (gw Γ) 5)), (1, .int (0 : Int32)), (0, .ref (oa (gw Γ) 3))]) C dX7_countDeclared_11 (by decide) rfl ?_
  obtain ⟨v1_4, m_4, hx, h⟩ := l2_some h
  refine g_sub [3, 2, 1, 0] rfl ?_
  refine lt_X7_countDeclared_13 N Γ C N (0 : Int32) 5 (12 : Int32) (0 : Int32) m _ hx ?_
  intro z1 m9 e9
  cases e9
  refine g_iload_n C dX7_countDeclared_39 0 rfl rfl ?_
  obtain rfl := Option.some.inj h
  exact hE 40 _ dX7_countDeclared_40
theorem c_X7_countDeclared (N : Nat) (l : Launch) (hst : l.stackTraces = false) (w : Om)  (m : Mem) (o : Int32 × Mem) (h : f_X7_countDeclared N  m = some o) : KI l yX7_countDeclared cX7_countDeclared 6 (some .int) 1 20 w [.ref (oa w 3)] m o.1 o.2 := KI_of hst (by decide +kernel) RX7 rfl (Nat.le_of_ble_eq_true rfl) (fun Γ hw hl C hE => by
  subst hw; subst hl
  exact t_X7_countDeclared N Γ C  m o h hE)
def Ex_X8_put_3 (Γ : Gc) (cs : Nat) (b : Mem) : Prop := (∀  (m' : Mem), b = m' → G Γ 3 cs m' 46 [] [])
set_option maxRecDepth 100000 in
set_option maxHeartbeats 4000000 in
theorem t_X8_put_3 (N : Nat) (Γ : Gc) (C : Cx Γ cX8_put 3 RX8 (rmK 0 0 0)) (rc : Int32 → Int32 → Mem → Option (Mem)) (b : Mem) (hE : Ex_X8_put_3 Γ 0 b) (hrec : ∀ (v1 : Int32) (v2 : Int32) (m : Mem) (b : Mem), rc v1 v2 m = some b → Ex_X8_put_3 Γ 0 b → G Γ 3 0 m 3 [(0, .ref (oa (gw Γ) 1)), (1, .int v1), (2, .int v2)] []) (v1 : Int32) (v2 : Int32) (m : Mem) (h : T_X8_put_3 N rc v1 v2 m = some b) : G Γ 3 0 m 3 [(0, .ref (oa (gw Γ) 1)), (1, .int v1), (2, .int v2)] [] := by
  unfold T_X8_put_3 at h
  refine g_iload_n C dX8_put_3 2 rfl rfl ?_
  refine g_if_lt (tgt := 46) C dX8_put_4 (by decide) (fun c_5 => ?_) (fun c_5 => ?_)
  · replace h := it_t c_5 h
    obtain rfl := Option.some.inj h
    refine g_sub [] rfl ?_
    exact hE _ rfl
  · replace h := it_f c_5 h
    refine g_aload_n C dX8_put_7 0 rfl rfl ?_
    refine g_getI (ci := 8) (j := 1) C dX8_put_8 rfl (by decide) rfl inT_X8 (by decide) k_233 rfl rfl ?_
    refine g_sipush (v := (800 : Int32)) C dX8_put_11 (by decide) ?_
    refine g_icmp_ge (tgt := 46) C dX8_put_14 (by decide) (fun c_4 => ?_) (fun c_4 => ?_)
    · replace h := it_t c_4 h
      obtain rfl := Option.some.inj h
      refine g_sub [] rfl ?_
      exact hE _ rfl
    · replace h := it_f c_4 h
      refine g_aload_n C dX8_put_17 0 rfl rfl ?_
      refine g_getT (b := 2) (ci := 8) (j := 0) C dX8_put_18 rfl (by decide) rfl inT_X8 (by decide) k_234 rfl rfl rfl rfl ?_
      refine g_aload_n C dX8_put_21 0 rfl rfl ?_
      refine g_getI (ci := 8) (j := 1) C dX8_put_22 rfl (by decide) rfl inT_X8 (by decide) k_233 rfl rfl ?_
      refine g_iload_n C dX8_put_25 1 rfl rfl ?_
      refine g_iload_n C dX8_put_26 2 rfl rfl ?_
      refine g_ishr C dX8_put_27 ?_
      refine g_i2b C dX8_put_28 ?_
      obtain ⟨g_1, h⟩ := gd_some h
      obtain ⟨m_2, e_2, h⟩ := wr_some h
      refine g_bast C dX8_put_29 (okA_of rfl rfl g_1) (G_m e_2 ?_)
      refine g_aload_n C dX8_put_30 0 rfl rfl ?_
      refine g_dup C dX8_put_31 rfl ?_
      refine g_getI (ci := 8) (j := 1) C dX8_put_32 rfl (by decide) rfl inT_X8 (by decide) k_233 rfl rfl ?_
      refine g_iconst (v := (1 : Int32)) C dX8_put_35 (by decide) ?_
      refine g_iadd C dX8_put_36 ?_
      obtain ⟨m_3, e_3, h⟩ := wr_some h
      refine g_putI (ci := 8) (j := 1) C dX8_put_37 rfl (by decide) rfl inT_X8 (by decide) k_233 tyX8 tyX8_ok nmX8 rfl rfl rfl rfl rfl (G_m e_3 ?_)
      refine g_iinc (q := 2) (v := v2 + (-8 : Int32)) (lv' := [(2, .int (v2 + (-8 : Int32))), (0, .ref (oa (gw Γ) 1)), (1, .int v1)]) C dX8_put_40 rfl rfl (by decide) rfl ?_
      refine g_goto (tgt := 3) C dX8_put_43 (by decide) ?_
      refine g_sub [1, 2, 0] rfl ?_
      exact hrec v1 (v2 + (-8 : Int32)) m_3 b h hE
theorem lt_X8_put_3 (N : Nat) (Γ : Gc) (C : Cx Γ cX8_put 3 RX8 (rmK 0 0 0)) : ∀ (n : Nat) (v1 : Int32) (v2 : Int32) (m : Mem) (b : Mem), L_X8_put_3 N n v1 v2 m = some b → Ex_X8_put_3 Γ 0 b → G Γ 3 0 m 3 [(0, .ref (oa (gw Γ) 1)), (1, .int v1), (2, .int v2)] [] := by
  intro n
  induction n with
  | zero =>
    intro v1 v2 m b h
    have h9 : (none : Option (Mem)) = some b := h
    cases h9
  | succ n ih => intro v1 v2 m b h hE; exact t_X8_put_3 N Γ C (L_X8_put_3 N n) b hE ih v1 v2 m h
set_option maxRecDepth 100000 in
set_option maxHeartbeats 4000000 in
theorem t_X8_put (N : Nat) (Γ : Gc) (C : Cx Γ cX8_put 3 RX8 (rmK 0 0 0)) (v1 : Int32) (m : Mem) (b : Mem) (h : f_X8_put N v1 m = some b) (hE : EVn Γ 3 cX8_put b) : G Γ 3 0 m 0 [(0, .ref (oa (gw Γ) 1)), (1, .int v1)] [] := by
  unfold f_X8_put at h
  refine g_bipush (v := (24 : Int32)) C dX8_put_0 (by decide) ?_
  refine g_istore_n (lv' := [(2, .int (24 : Int32)), (0, .ref (oa (gw Γ) 1)), (1, .int v1)]) C dX8_put_2 rfl (by decide) rfl ?_
  obtain ⟨m_6, hx, h⟩ := l1_some h
  refine g_sub [1, 2, 0] rfl ?_
  refine lt_X8_put_3 N Γ C N v1 (24 : Int32) m _ hx ?_
  intro  m9 e9
  cases e9
  obtain rfl := Option.some.inj h
  exact hE 46 _ dX8_put_46
theorem c_X8_put (N : Nat) (l : Launch) (hst : l.stackTraces = false) (w : Om) (v1 : Int32) (m : Mem) (o : Mem) (h : f_X8_put N v1 m = some o) : KV l yX8_put cX8_put 3 none 0 0 w [.ref (oa w 1), .int v1] m o := KV_of hst (by decide +kernel) RX8 rfl (Nat.le_of_ble_eq_true rfl) (fun Γ hw hl C hE => by
  subst hw; subst hl
  exact t_X8_put N Γ C v1 m o h hE)
def Ex_X8_evaluate_30 (Γ : Gc) (cs : Nat) (b : Mem) : Prop := (∀  (m' : Mem), b = m' → G Γ 2 cs m' 65 [] [])
set_option maxRecDepth 100000 in
set_option maxHeartbeats 4000000 in
theorem t_X8_evaluate_30 (N : Nat) (Γ : Gc) (C : Cx Γ cX8_evaluate 2 RX8 (rmK 0 0 0)) (rc : Int32 → Mem → Option (Mem)) (b : Mem) (hE : Ex_X8_evaluate_30 Γ 0 b) (hrec : ∀ (v1 : Int32) (m : Mem) (b : Mem), rc v1 m = some b → Ex_X8_evaluate_30 Γ 0 b → G Γ 2 0 m 30 [(0, .ref (oa (gw Γ) 1)), (1, .int v1)] []) (v1 : Int32) (m : Mem) (h : T_X8_evaluate_30 N rc v1 m = some b) : G Γ 2 0 m 30 [(0, .ref (oa (gw Γ) 1)), (1, .int v1)] [] := by
  unfold T_X8_evaluate_30 at h
  refine g_iload_n C dX8_evaluate_30 1 rfl rfl ?_
  refine g_aload_n C dX8_evaluate_31 0 rfl rfl ?_
  refine g_getI (ci := 8) (j := 6) C dX8_evaluate_32 rfl (by decide) rfl inT_X8 (by decide) k_235 rfl rfl ?_
  refine g_icmp_ge (tgt := 65) C dX8_evaluate_35 (by decide) (fun c_4 => ?_) (fun c_4 => ?_)
  · replace h := it_t c_4 h
    obtain rfl := Option.some.inj h
    refine g_sub [] rfl ?_
    exact hE _ rfl
  · replace h := it_f c_4 h
    refine g_aload_n C dX8_evaluate_38 0 rfl rfl ?_
    refine g_bipush (v := (10 : Int32)) C dX8_evaluate_39 (by decide) ?_
    refine g_aload_n C dX8_evaluate_41 0 rfl rfl ?_
    refine g_getI (ci := 8) (j := 7) C dX8_evaluate_42 rfl (by decide) rfl inT_X8 (by decide) k_237 rfl rfl ?_
    refine g_imul C dX8_evaluate_45 ?_
    refine g_aload_n C dX8_evaluate_46 0 rfl rfl ?_
    refine g_getT (b := 2) (ci := 8) (j := 0) C dX8_evaluate_47 rfl (by decide) rfl inT_X8 (by decide) k_234 rfl rfl rfl rfl ?_
    refine g_iload_n C dX8_evaluate_50 1 rfl rfl ?_
    obtain ⟨g_2, h⟩ := gd_some h
    refine g_bald C dX8_evaluate_51 (okA_of rfl rfl g_2) ?_
    refine g_iadd C dX8_evaluate_52 ?_
    refine g_bipush (v := (48 : Int32)) C dX8_evaluate_53 (by decide) ?_
    refine g_isub C dX8_evaluate_55 ?_
    obtain ⟨m_3, e_3, h⟩ := wr_some h
    refine g_putI (ci := 8) (j := 7) C dX8_evaluate_56 rfl (by decide) rfl inT_X8 (by decide) k_237 tyX8 tyX8_ok nmX8 rfl rfl rfl rfl rfl (G_m e_3 ?_)
    refine g_iinc (q := 1) (v := v1 + (1 : Int32)) (lv' := [(1, .int (v1 + (1 : Int32))), (0, .ref (oa (gw Γ) 1))]) C dX8_evaluate_59 rfl rfl (by decide) rfl ?_
    refine g_goto (tgt := 30) C dX8_evaluate_62 (by decide) ?_
    refine g_sub [1, 0] rfl ?_
    exact hrec (v1 + (1 : Int32)) m_3 b h hE
theorem lt_X8_evaluate_30 (N : Nat) (Γ : Gc) (C : Cx Γ cX8_evaluate 2 RX8 (rmK 0 0 0)) : ∀ (n : Nat) (v1 : Int32) (m : Mem) (b : Mem), L_X8_evaluate_30 N n v1 m = some b → Ex_X8_evaluate_30 Γ 0 b → G Γ 2 0 m 30 [(0, .ref (oa (gw Γ) 1)), (1, .int v1)] [] := by
  intro n
  induction n with
  | zero =>
    intro v1 m b h
    have h9 : (none : Option (Mem)) = some b := h
    cases h9
  | succ n ih => intro v1 m b h hE; exact t_X8_evaluate_30 N Γ C (L_X8_evaluate_30 N n) b hE ih v1 m h
set_option maxRecDepth 100000 in
set_option maxHeartbeats 4000000 in
theorem t_X8_evaluate (N : Nat) (Γ : Gc) (C : Cx Γ cX8_evaluate 2 RX8 (rmK 0 0 0))  (m : Mem) (b : Mem) (h : f_X8_evaluate N  m = some b) (hE : EVn Γ 2 cX8_evaluate b) : G Γ 2 0 m 0 [(0, .ref (oa (gw Γ) 1))] [] := by
  unfold f_X8_evaluate at h
  refine g_aload_n C dX8_evaluate_0 0 rfl rfl ?_
  refine g_getI (ci := 8) (j := 6) C dX8_evaluate_1 rfl (by decide) rfl inT_X8 (by decide) k_235 rfl rfl ?_
  refine g_aload_n C dX8_evaluate_4 0 rfl rfl ?_
  refine g_getI (ci := 8) (j := 5) C dX8_evaluate_5 rfl (by decide) rfl inT_X8 (by decide) k_236 rfl rfl ?_
  refine g_isub C dX8_evaluate_8 ?_
  refine g_bipush (v := (6 : Int32)) C dX8_evaluate_9 (by decide) ?_
  refine g_icmp_le (tgt := 20) C dX8_evaluate_11 (by decide) (fun c_7 => ?_) (fun c_7 => ?_)
  · replace h := it_t c_7 h
    refine g_aload_n C dX8_evaluate_20 0 rfl rfl ?_
    refine g_iconst (v := (0 : Int32)) C dX8_evaluate_21 (by decide) ?_
    obtain ⟨m_1, e_1, h⟩ := wr_some h
    refine g_putI (ci := 8) (j := 7) C dX8_evaluate_22 rfl (by decide) rfl inT_X8 (by decide) k_237 tyX8 tyX8_ok nmX8 rfl rfl rfl rfl rfl (G_m e_1 ?_)
    refine g_aload_n C dX8_evaluate_25 0 rfl rfl ?_
    refine g_getI (ci := 8) (j := 5) C dX8_evaluate_26 rfl (by decide) rfl inT_X8 (by decide) k_236 rfl rfl ?_
    refine g_istore_n (lv' := [(1, .int (gI m_1 1 5)), (0, .ref (oa (gw Γ) 1))]) C dX8_evaluate_29 rfl (by decide) rfl ?_
    obtain ⟨m_5, hx, h⟩ := l1_some h
    refine g_sub [1, 0] rfl ?_
    refine lt_X8_evaluate_30 N Γ C N (gI m_1 1 5) m_1 _ hx ?_
    intro  m9 e9
    cases e9
    obtain rfl := Option.some.inj h
    exact hE 65 _ dX8_evaluate_65
  · replace h := it_f c_7 h
    refine g_aload_n C dX8_evaluate_14 0 rfl rfl ?_
    refine g_iconst (v := (5 : Int32)) C dX8_evaluate_15 (by decide) ?_
    obtain ⟨m_6, e_6, h⟩ := wr_some h
    refine g_putI (ci := 8) (j := 4) C dX8_evaluate_16 rfl (by decide) rfl inT_X8 (by decide) k_238 tyX8 tyX8_ok nmX8 rfl rfl rfl rfl rfl (G_m e_6 ?_)
    obtain rfl := Option.some.inj h
    exact hE 19 _ dX8_evaluate_19
theorem c_X8_evaluate (N : Nat) (l : Launch) (hst : l.stackTraces = false) (w : Om)  (m : Mem) (o : Mem) (h : f_X8_evaluate N  m = some o) : KV l yX8_evaluate cX8_evaluate 2 none 0 0 w [.ref (oa w 1)] m o := KV_of hst (by decide +kernel) RX8 rfl (Nat.le_of_ble_eq_true rfl) (fun Γ hw hl C hE => by
  subst hw; subst hl
  exact t_X8_evaluate N Γ C  m o h hE)
set_option maxRecDepth 100000 in
set_option maxHeartbeats 4000000 in
theorem t_X8_kindOf_42 (N : Nat) (Γ : Gc) (C : Cx Γ cX8_kindOf 1 RX8 (rmK 0 0 0)) (b : Int32 × Mem) (hE : EIn Γ 1 cX8_kindOf b) (v0 : Int32) (m : Mem) (h : B_X8_kindOf_42 N v0 m = some b) : G Γ 1 0 m 42 [(0, .int v0)] [] := by
  unfold B_X8_kindOf_42 at h
  refine g_iload_n C dX8_kindOf_42 0 rfl rfl ?_
  refine g_bipush (v := (59 : Int32)) C dX8_kindOf_43 (by decide) ?_
  refine g_icmp_ne (tgt := 52) C dX8_kindOf_45 (by decide) (fun c_1 => ?_) (fun c_1 => ?_)
  · replace h := it_f c_1 h
    refine g_iconst (v := (5 : Int32)) C dX8_kindOf_52 (by decide) ?_
    obtain rfl := Option.some.inj h
    exact hE 53 _ dX8_kindOf_53
  · replace h := it_t c_1 h
    refine g_iconst (v := (4 : Int32)) C dX8_kindOf_48 (by decide) ?_
    refine g_goto (tgt := 53) C dX8_kindOf_49 (by decide) ?_
    obtain rfl := Option.some.inj h
    exact hE 53 _ dX8_kindOf_53
set_option maxRecDepth 100000 in
set_option maxHeartbeats 4000000 in
theorem t_X8_kindOf_28 (N : Nat) (Γ : Gc) (C : Cx Γ cX8_kindOf 1 RX8 (rmK 0 0 0)) (b : Int32 × Mem) (hE : EIn Γ 1 cX8_kindOf b) (v0 : Int32) (m : Mem) (h : B_X8_kindOf_28 N v0 m = some b) : G Γ 1 0 m 28 [(0, .int v0)] [] := by
  unfold B_X8_kindOf_28 at h
  refine g_iload_n C dX8_kindOf_28 0 rfl rfl ?_
  refine g_bipush (v := (48 : Int32)) C dX8_kindOf_29 (by decide) ?_
  refine g_icmp_lt (tgt := 42) C dX8_kindOf_31 (by decide) (fun c_3 => ?_) (fun c_3 => ?_)
  · replace h := it_t c_3 h
    refine g_sub [0] rfl ?_
    exact t_X8_kindOf_42 N Γ C b hE v0 m h
  · replace h := it_f c_3 h
    refine g_iload_n C dX8_kindOf_34 0 rfl rfl ?_
    refine g_bipush (v := (57 : Int32)) C dX8_kindOf_35 (by decide) ?_
    refine g_icmp_gt (tgt := 42) C dX8_kindOf_37 (by decide) (fun c_2 => ?_) (fun c_2 => ?_)
    · replace h := it_t c_2 h
      refine g_sub [0] rfl ?_
      exact t_X8_kindOf_42 N Γ C b hE v0 m h
    · replace h := it_f c_2 h
      refine g_iconst (v := (3 : Int32)) C dX8_kindOf_40 (by decide) ?_
      obtain rfl := Option.some.inj h
      exact hE 41 _ dX8_kindOf_41
set_option maxRecDepth 100000 in
set_option maxHeartbeats 4000000 in
theorem t_X8_kindOf (N : Nat) (Γ : Gc) (C : Cx Γ cX8_kindOf 1 RX8 (rmK 0 0 0)) (v0 : Int32) (m : Mem) (b : Int32 × Mem) (h : f_X8_kindOf N v0 m = some b) (hE : EIn Γ 1 cX8_kindOf b) : G Γ 1 0 m 0 [(0, .int v0)] [] := by
  unfold f_X8_kindOf at h
  refine g_iload_n C dX8_kindOf_0 0 rfl rfl ?_
  refine g_bipush (v := (10 : Int32)) C dX8_kindOf_1 (by decide) ?_
  refine g_icmp_eq (tgt := 12) C dX8_kindOf_3 (by decide) (fun c_7 => ?_) (fun c_7 => ?_)
  · replace h := it_t c_7 h
    refine g_iconst (v := (1 : Int32)) C dX8_kindOf_12 (by decide) ?_
    obtain rfl := Option.some.inj h
    exact hE 13 _ dX8_kindOf_13
  · replace h := it_f c_7 h
    refine g_iload_n C dX8_kindOf_6 0 rfl rfl ?_
    refine g_bipush (v := (32 : Int32)) C dX8_kindOf_7 (by decide) ?_
    refine g_icmp_ne (tgt := 14) C dX8_kindOf_9 (by decide) (fun c_6 => ?_) (fun c_6 => ?_)
    · replace h := it_f c_6 h
      refine g_iload_n C dX8_kindOf_14 0 rfl rfl ?_
      refine g_bipush (v := (97 : Int32)) C dX8_kindOf_15 (by decide) ?_
      refine g_icmp_lt (tgt := 28) C dX8_kindOf_17 (by decide) (fun c_5 => ?_) (fun c_5 => ?_)
      · replace h := it_t c_5 h
        refine g_sub [0] rfl ?_
        exact t_X8_kindOf_28 N Γ C b hE v0 m h
      · replace h := it_f c_5 h
        refine g_iload_n C dX8_kindOf_20 0 rfl rfl ?_
        refine g_bipush (v := (122 : Int32)) C dX8_kindOf_21 (by decide) ?_
        refine g_icmp_gt (tgt := 28) C dX8_kindOf_23 (by decide) (fun c_4 => ?_) (fun c_4 => ?_)
        · replace h := it_t c_4 h
          refine g_sub [0] rfl ?_
          exact t_X8_kindOf_28 N Γ C b hE v0 m h
        · replace h := it_f c_4 h
          refine g_iconst (v := (2 : Int32)) C dX8_kindOf_26 (by decide) ?_
          obtain rfl := Option.some.inj h
          exact hE 27 _ dX8_kindOf_27
    · replace h := it_t c_6 h
      refine g_iconst (v := (1 : Int32)) C dX8_kindOf_12 (by decide) ?_
      obtain rfl := Option.some.inj h
      exact hE 13 _ dX8_kindOf_13
theorem c_X8_kindOf (N : Nat) (l : Launch) (hst : l.stackTraces = false) (w : Om) (v0 : Int32) (m : Mem) (o : Int32 × Mem) (h : f_X8_kindOf N v0 m = some o) : KI l yX8_kindOf cX8_kindOf 1 (some .int) 0 0 w [.int v0] m o.1 o.2 := KI_of hst (by decide +kernel) RX8 rfl (Nat.le_of_ble_eq_true rfl) (fun Γ hw hl C hE => by
  subst hw; subst hl
  exact t_X8_kindOf N Γ C v0 m o h hE)
def Ex_X8_nextToken_0 (Γ : Gc) (cs : Nat) (b : Mem) : Prop := (∀  (m' : Mem), b = m' → G Γ 1 cs m' 40 [(0, .ref (oa (gw Γ) 1))] [])
set_option maxRecDepth 100000 in
set_option maxHeartbeats 4000000 in
theorem t_X8_nextToken_0 (N : Nat) (Γ : Gc) (C : Cx Γ cX8_nextToken 1 RX8 (rmK 1 21 0)) (rc : Mem → Option (Mem)) (b : Mem) (hE : Ex_X8_nextToken_0 Γ 0 b) (hrec : ∀  (m : Mem) (b : Mem), rc  m = some b → Ex_X8_nextToken_0 Γ 0 b → G Γ 1 0 m 0 [(0, .ref (oa (gw Γ) 1))] [])  (m : Mem) (h : T_X8_nextToken_0 N rc  m = some b) : G Γ 1 0 m 0 [(0, .ref (oa (gw Γ) 1))] [] := by
  unfold T_X8_nextToken_0 at h
  refine g_aload_n C dX8_nextToken_0 0 rfl rfl ?_
  refine g_getI (ci := 8) (j := 6) C dX8_nextToken_1 rfl (by decide) rfl inT_X8 (by decide) k_235 rfl rfl ?_
  refine g_aload_n C dX8_nextToken_4 0 rfl rfl ?_
  refine g_getI (ci := 8) (j := 1) C dX8_nextToken_5 rfl (by decide) rfl inT_X8 (by decide) k_233 rfl rfl ?_
  refine g_icmp_ge (tgt := 40) C dX8_nextToken_8 (by decide) (fun c_5 => ?_) (fun c_5 => ?_)
  · replace h := it_t c_5 h
    obtain rfl := Option.some.inj h
    refine g_sub [0] rfl ?_
    exact hE _ rfl
  · replace h := it_f c_5 h
    refine g_aload_n C dX8_nextToken_11 0 rfl rfl ?_
    refine g_getT (b := 2) (ci := 8) (j := 0) C dX8_nextToken_12 rfl (by decide) rfl inT_X8 (by decide) k_234 rfl rfl rfl rfl ?_
    refine g_aload_n C dX8_nextToken_15 0 rfl rfl ?_
    refine g_getI (ci := 8) (j := 6) C dX8_nextToken_16 rfl (by decide) rfl inT_X8 (by decide) k_235 rfl rfl ?_
    obtain ⟨g_1, h⟩ := gd_some h
    refine g_bald C dX8_nextToken_19 (okA_of rfl rfl g_1) ?_
    obtain ⟨r_2, m_2, hk_2, h⟩ := b2_some h
    refine g_sI (As := [.int (gI m 2 (gI m 1 6).toNatClampNeg)]) C dX8_nextToken_20 mf_X8_kindOf k_239 ⟨by decide, by decide⟩ rfl rfl (Nat.le_of_ble_eq_true rfl) (by decide) (c_X8_kindOf N (gl Γ) C.2.2.2.2 (gw Γ) (gI m 2 (gI m 1 6).toNatClampNeg) m _ hk_2) ?_
    refine g_iconst (v := (1 : Int32)) C dX8_nextToken_23 (by decide) ?_
    refine g_icmp_ne (tgt := 40) C dX8_nextToken_24 (by decide) (fun c_4 => ?_) (fun c_4 => ?_)
    · replace h := it_f c_4 h
      obtain rfl := Option.some.inj h
      refine g_sub [0] rfl ?_
      exact hE _ rfl
    · replace h := it_t c_4 h
      refine g_aload_n C dX8_nextToken_27 0 rfl rfl ?_
      refine g_dup C dX8_nextToken_28 rfl ?_
      refine g_getI (ci := 8) (j := 6) C dX8_nextToken_29 rfl (by decide) rfl inT_X8 (by decide) k_235 rfl rfl ?_
      refine g_iconst (v := (1 : Int32)) C dX8_nextToken_32 (by decide) ?_
      refine g_iadd C dX8_nextToken_33 ?_
      obtain ⟨m_3, e_3, h⟩ := wr_some h
      refine g_putI (ci := 8) (j := 6) C dX8_nextToken_34 rfl (by decide) rfl inT_X8 (by decide) k_235 tyX8 tyX8_ok nmX8 rfl rfl rfl rfl rfl (G_m e_3 ?_)
      refine g_goto (tgt := 0) C dX8_nextToken_37 (by decide) ?_
      refine g_sub [0] rfl ?_
      exact hrec  m_3 b h hE
theorem lt_X8_nextToken_0 (N : Nat) (Γ : Gc) (C : Cx Γ cX8_nextToken 1 RX8 (rmK 1 21 0)) : ∀ (n : Nat)  (m : Mem) (b : Mem), L_X8_nextToken_0 N n  m = some b → Ex_X8_nextToken_0 Γ 0 b → G Γ 1 0 m 0 [(0, .ref (oa (gw Γ) 1))] [] := by
  intro n
  induction n with
  | zero =>
    intro  m b h
    have h9 : (none : Option (Mem)) = some b := h
    cases h9
  | succ n ih => intro  m b h hE; exact t_X8_nextToken_0 N Γ C (L_X8_nextToken_0 N n) b hE ih  m h
def Ex_X8_nextToken_116 (Γ : Gc) (cs : Nat) (b : Mem) : Prop := (∀  (m' : Mem), b = m' → G Γ 1 cs m' 159 [(0, .ref (oa (gw Γ) 1))] [])
set_option maxRecDepth 100000 in
set_option maxHeartbeats 4000000 in
theorem t_X8_nextToken_116 (N : Nat) (Γ : Gc) (C : Cx Γ cX8_nextToken 1 RX8 (rmK 1 21 0)) (rc : Mem → Option (Mem)) (b : Mem) (hE : Ex_X8_nextToken_116 Γ 0 b) (hrec : ∀  (m : Mem) (b : Mem), rc  m = some b → Ex_X8_nextToken_116 Γ 0 b → G Γ 1 0 m 116 [(0, .ref (oa (gw Γ) 1))] [])  (m : Mem) (h : T_X8_nextToken_116 N rc  m = some b) : G Γ 1 0 m 116 [(0, .ref (oa (gw Γ) 1))] [] := by
  unfold T_X8_nextToken_116 at h
  refine g_aload_n C dX8_nextToken_116 0 rfl rfl ?_
  refine g_getI (ci := 8) (j := 6) C dX8_nextToken_117 rfl (by decide) rfl inT_X8 (by decide) k_235 rfl rfl ?_
  refine g_aload_n C dX8_nextToken_120 0 rfl rfl ?_
  refine g_getI (ci := 8) (j := 1) C dX8_nextToken_121 rfl (by decide) rfl inT_X8 (by decide) k_233 rfl rfl ?_
  refine g_icmp_ge (tgt := 159) C dX8_nextToken_124 (by decide) (fun c_13 => ?_) (fun c_13 => ?_)
  · replace h := it_t c_13 h
    obtain rfl := Option.some.inj h
    refine g_sub [0] rfl ?_
    exact hE _ rfl
  · replace h := it_f c_13 h
    refine g_aload_n C dX8_nextToken_127 0 rfl rfl ?_
    refine g_getT (b := 2) (ci := 8) (j := 0) C dX8_nextToken_128 rfl (by decide) rfl inT_X8 (by decide) k_234 rfl rfl rfl rfl ?_
    refine g_aload_n C dX8_nextToken_131 0 rfl rfl ?_
    refine g_getI (ci := 8) (j := 6) C dX8_nextToken_132 rfl (by decide) rfl inT_X8 (by decide) k_235 rfl rfl ?_
    obtain ⟨g_9, h⟩ := gd_some h
    refine g_bald C dX8_nextToken_135 (okA_of rfl rfl g_9) ?_
    obtain ⟨r_10, m_10, hk_10, h⟩ := b2_some h
    refine g_sI (As := [.int (gI m 2 (gI m 1 6).toNatClampNeg)]) C dX8_nextToken_136 mf_X8_kindOf k_239 ⟨by decide, by decide⟩ rfl rfl (Nat.le_of_ble_eq_true rfl) (by decide) (c_X8_kindOf N (gl Γ) C.2.2.2.2 (gw Γ) (gI m 2 (gI m 1 6).toNatClampNeg) m _ hk_10) ?_
    refine g_aload_n C dX8_nextToken_139 0 rfl rfl ?_
    refine g_getI (ci := 8) (j := 4) C dX8_nextToken_140 rfl (by decide) rfl inT_X8 (by decide) k_238 rfl rfl ?_
    refine g_icmp_ne (tgt := 159) C dX8_nextToken_143 (by decide) (fun c_12 => ?_) (fun c_12 => ?_)
    · replace h := it_f c_12 h
      obtain rfl := Option.some.inj h
      refine g_sub [0] rfl ?_
      exact hE _ rfl
    · replace h := it_t c_12 h
      refine g_aload_n C dX8_nextToken_146 0 rfl rfl ?_
      refine g_dup C dX8_nextToken_147 rfl ?_
      refine g_getI (ci := 8) (j := 6) C dX8_nextToken_148 rfl (by decide) rfl inT_X8 (by decide) k_235 rfl rfl ?_
      refine g_iconst (v := (1 : Int32)) C dX8_nextToken_151 (by decide) ?_
      refine g_iadd C dX8_nextToken_152 ?_
      obtain ⟨m_11, e_11, h⟩ := wr_some h
      refine g_putI (ci := 8) (j := 6) C dX8_nextToken_153 rfl (by decide) rfl inT_X8 (by decide) k_235 tyX8 tyX8_ok nmX8 rfl rfl rfl rfl rfl (G_m e_11 ?_)
      refine g_goto (tgt := 116) C dX8_nextToken_156 (by decide) ?_
      refine g_sub [0] rfl ?_
      exact hrec  m_11 b h hE
theorem lt_X8_nextToken_116 (N : Nat) (Γ : Gc) (C : Cx Γ cX8_nextToken 1 RX8 (rmK 1 21 0)) : ∀ (n : Nat)  (m : Mem) (b : Mem), L_X8_nextToken_116 N n  m = some b → Ex_X8_nextToken_116 Γ 0 b → G Γ 1 0 m 116 [(0, .ref (oa (gw Γ) 1))] [] := by
  intro n
  induction n with
  | zero =>
    intro  m b h
    have h9 : (none : Option (Mem)) = some b := h
    cases h9
  | succ n ih => intro  m b h hE; exact t_X8_nextToken_116 N Γ C (L_X8_nextToken_116 N n) b hE ih  m h
set_option maxRecDepth 100000 in
set_option maxHeartbeats 4000000 in
theorem t_X8_nextToken_159 (N : Nat) (Γ : Gc) (C : Cx Γ cX8_nextToken 1 RX8 (rmK 1 21 0)) (b : Mem) (hE : EVn Γ 1 cX8_nextToken b)  (m : Mem) (h : B_X8_nextToken_159 N  m = some b) : G Γ 1 0 m 159 [(0, .ref (oa (gw Γ) 1))] [] := by
  unfold B_X8_nextToken_159 at h
  refine g_aload_n C dX8_nextToken_159 0 rfl rfl ?_
  refine g_getI (ci := 8) (j := 4) C dX8_nextToken_160 rfl (by decide) rfl inT_X8 (by decide) k_238 rfl rfl ?_
  refine g_iconst (v := (3 : Int32)) C dX8_nextToken_163 (by decide) ?_
  refine g_icmp_ne (tgt := 171) C dX8_nextToken_164 (by decide) (fun c_16 => ?_) (fun c_16 => ?_)
  · replace h := it_f c_16 h
    obtain rfl := Option.some.inj h
    exact hE 171 _ dX8_nextToken_171
  · replace h := it_t c_16 h
    refine g_aload_n C dX8_nextToken_167 0 rfl rfl ?_
    obtain ⟨m_15, hk_15, h⟩ := b1_some h
    refine g_vV (As := []) (a := 1) (ci := 8) C dX8_nextToken_168 mf_X8_evaluate k_243 rfl (by decide) ⟨by decide, by decide⟩ rfl rfl (Nat.le_of_ble_eq_true rfl) (by decide) rfl (c_X8_evaluate N (gl Γ) C.2.2.2.2 (gw Γ)  m _ hk_15) ?_
    obtain rfl := Option.some.inj h
    exact hE 171 _ dX8_nextToken_171
set_option maxRecDepth 100000 in
set_option maxHeartbeats 4000000 in
theorem t_X8_nextToken_76 (N : Nat) (Γ : Gc) (C : Cx Γ cX8_nextToken 1 RX8 (rmK 1 21 0)) (b : Mem) (hE : EVn Γ 1 cX8_nextToken b) (s0 : Int32) (m : Mem) (h : B_X8_nextToken_76 N s0 m = some b) : G Γ 1 0 m 76 [(0, .ref (oa (gw Γ) 1))] [.int s0, .ref (oa (gw Γ) 1)] := by
  unfold B_X8_nextToken_76 at h
  obtain ⟨m_8, e_8, h⟩ := wr_some h
  refine g_putI (ci := 8) (j := 4) C dX8_nextToken_76 rfl (by decide) rfl inT_X8 (by decide) k_238 tyX8 tyX8_ok nmX8 rfl rfl rfl rfl rfl (G_m e_8 ?_)
  refine g_aload_n C dX8_nextToken_79 0 rfl rfl ?_
  refine g_getI (ci := 8) (j := 4) C dX8_nextToken_80 rfl (by decide) rfl inT_X8 (by decide) k_238 rfl rfl ?_
  refine g_iconst (v := (4 : Int32)) C dX8_nextToken_83 (by decide) ?_
  refine g_icmp_ne (tgt := 100) C dX8_nextToken_84 (by decide) (fun c_21 => ?_) (fun c_21 => ?_)
  · replace h := it_f c_21 h
    refine g_aload_n C dX8_nextToken_100 0 rfl rfl ?_
    refine g_getI (ci := 8) (j := 4) C dX8_nextToken_101 rfl (by decide) rfl inT_X8 (by decide) k_238 rfl rfl ?_
    refine g_iconst (v := (2 : Int32)) C dX8_nextToken_104 (by decide) ?_
    refine g_icmp_eq (tgt := 116) C dX8_nextToken_105 (by decide) (fun c_19 => ?_) (fun c_19 => ?_)
    · replace h := it_t c_19 h
      obtain ⟨m_14, hx, h⟩ := l1_some h
      refine g_sub [0] rfl ?_
      refine lt_X8_nextToken_116 N Γ C N  m_8 _ hx ?_
      intro  m9 e9
      cases e9
      refine g_sub [0] rfl ?_
      exact t_X8_nextToken_159 N Γ C b hE  m_14 h
    · replace h := it_f c_19 h
      refine g_aload_n C dX8_nextToken_108 0 rfl rfl ?_
      refine g_getI (ci := 8) (j := 4) C dX8_nextToken_109 rfl (by decide) rfl inT_X8 (by decide) k_238 rfl rfl ?_
      refine g_iconst (v := (3 : Int32)) C dX8_nextToken_112 (by decide) ?_
      refine g_icmp_ne (tgt := 159) C dX8_nextToken_113 (by decide) (fun c_18 => ?_) (fun c_18 => ?_)
      · replace h := it_f c_18 h
        refine g_sub [0] rfl ?_
        exact t_X8_nextToken_159 N Γ C b hE  m_8 h
      · replace h := it_t c_18 h
        obtain ⟨m_17, hx, h⟩ := l1_some h
        refine g_sub [0] rfl ?_
        refine lt_X8_nextToken_116 N Γ C N  m_8 _ hx ?_
        intro  m9 e9
        cases e9
        refine g_sub [0] rfl ?_
        exact t_X8_nextToken_159 N Γ C b hE  m_17 h
  · replace h := it_t c_21 h
    refine g_aload_n C dX8_nextToken_87 0 rfl rfl ?_
    refine g_dup C dX8_nextToken_88 rfl ?_
    refine g_getI (ci := 8) (j := 6) C dX8_nextToken_89 rfl (by decide) rfl inT_X8 (by decide) k_235 rfl rfl ?_
    refine g_iconst (v := (1 : Int32)) C dX8_nextToken_92 (by decide) ?_
    refine g_iadd C dX8_nextToken_93 ?_
    obtain ⟨m_20, e_20, h⟩ := wr_some h
    refine g_putI (ci := 8) (j := 6) C dX8_nextToken_94 rfl (by decide) rfl inT_X8 (by decide) k_235 tyX8 tyX8_ok nmX8 rfl rfl rfl rfl rfl (G_m e_20 ?_)
    refine g_goto (tgt := 159) C dX8_nextToken_97 (by decide) ?_
    refine g_sub [0] rfl ?_
    exact t_X8_nextToken_159 N Γ C b hE  m_20 h
set_option maxRecDepth 100000 in
set_option maxHeartbeats 4000000 in
theorem t_X8_nextToken_40 (N : Nat) (Γ : Gc) (C : Cx Γ cX8_nextToken 1 RX8 (rmK 1 21 0)) (b : Mem) (hE : EVn Γ 1 cX8_nextToken b)  (m : Mem) (h : B_X8_nextToken_40 N  m = some b) : G Γ 1 0 m 40 [(0, .ref (oa (gw Γ) 1))] [] := by
  unfold B_X8_nextToken_40 at h
  refine g_aload_n C dX8_nextToken_40 0 rfl rfl ?_
  refine g_aload_n C dX8_nextToken_41 0 rfl rfl ?_
  refine g_getI (ci := 8) (j := 6) C dX8_nextToken_42 rfl (by decide) rfl inT_X8 (by decide) k_235 rfl rfl ?_
  obtain ⟨m_7, e_7, h⟩ := wr_some h
  refine g_putI (ci := 8) (j := 5) C dX8_nextToken_45 rfl (by decide) rfl inT_X8 (by decide) k_236 tyX8 tyX8_ok nmX8 rfl rfl rfl rfl rfl (G_m e_7 ?_)
  refine g_aload_n C dX8_nextToken_48 0 rfl rfl ?_
  refine g_aload_n C dX8_nextToken_49 0 rfl rfl ?_
  refine g_getI (ci := 8) (j := 6) C dX8_nextToken_50 rfl (by decide) rfl inT_X8 (by decide) k_235 rfl rfl ?_
  refine g_aload_n C dX8_nextToken_53 0 rfl rfl ?_
  refine g_getI (ci := 8) (j := 1) C dX8_nextToken_54 rfl (by decide) rfl inT_X8 (by decide) k_233 rfl rfl ?_
  refine g_icmp_ge (tgt := 75) C dX8_nextToken_57 (by decide) (fun c_24 => ?_) (fun c_24 => ?_)
  · replace h := it_t c_24 h
    refine g_iconst (v := (0 : Int32)) C dX8_nextToken_75 (by decide) ?_
    refine g_sub [0] rfl ?_
    exact t_X8_nextToken_76 N Γ C b hE (0 : Int32) m_7 h
  · replace h := it_f c_24 h
    refine g_aload_n C dX8_nextToken_60 0 rfl rfl ?_
    refine g_getT (b := 2) (ci := 8) (j := 0) C dX8_nextToken_61 rfl (by decide) rfl inT_X8 (by decide) k_234 rfl rfl rfl rfl ?_
    refine g_aload_n C dX8_nextToken_64 0 rfl rfl ?_
    refine g_getI (ci := 8) (j := 6) C dX8_nextToken_65 rfl (by decide) rfl inT_X8 (by decide) k_235 rfl rfl ?_
    obtain ⟨g_22, h⟩ := gd_some h
    refine g_bald C dX8_nextToken_68 (okA_of rfl rfl g_22) ?_
    obtain ⟨r_23, m_23, hk_23, h⟩ := b2_some h
    refine g_sI (As := [.int (gI m_7 2 (gI m_7 1 6).toNatClampNeg)]) C dX8_nextToken_69 mf_X8_kindOf k_239 ⟨by decide, by decide⟩ rfl rfl (Nat.le_of_ble_eq_true rfl) (by decide) (c_X8_kindOf N (gl Γ) C.2.2.2.2 (gw Γ) (gI m_7 2 (gI m_7 1 6).toNatClampNeg) m_7 _ hk_23) ?_
    refine g_goto (tgt := 76) C dX8_nextToken_72 (by decide) ?_
    refine g_sub [0] rfl ?_
    exact t_X8_nextToken_76 N Γ C b hE r_23 m_23 h
set_option maxRecDepth 100000 in
set_option maxHeartbeats 4000000 in
theorem t_X8_nextToken (N : Nat) (Γ : Gc) (C : Cx Γ cX8_nextToken 1 RX8 (rmK 1 21 0))  (m : Mem) (b : Mem) (h : f_X8_nextToken N  m = some b) (hE : EVn Γ 1 cX8_nextToken b) : G Γ 1 0 m 0 [(0, .ref (oa (gw Γ) 1))] [] := by
  unfold f_X8_nextToken at h
  obtain ⟨m_6, hx, h⟩ := l1_some h
  refine g_sub [0] rfl ?_
  refine lt_X8_nextToken_0 N Γ C N  m _ hx ?_
  intro  m9 e9
  cases e9
  refine g_sub [0] rfl ?_
  exact t_X8_nextToken_40 N Γ C b hE  m_6 h
theorem c_X8_nextToken (N : Nat) (l : Launch) (hst : l.stackTraces = false) (w : Om)  (m : Mem) (o : Mem) (h : f_X8_nextToken N  m = some o) : KV l yX8_nextToken cX8_nextToken 1 none 1 21 w [.ref (oa w 1)] m o := KV_of hst (by decide +kernel) RX8 rfl (Nat.le_of_ble_eq_true rfl) (fun Γ hw hl C hE => by
  subst hw; subst hl
  exact t_X8_nextToken N Γ C  m o h hE)
set_option maxRecDepth 100000 in
set_option maxHeartbeats 4000000 in
theorem t_X8_fail_20 (N : Nat) (Γ : Gc) (C : Cx Γ cX8_fail 2 RX8 (rmK 0 0 0)) (b : Mem) (hE : EVn Γ 2 cX8_fail b)  (m : Mem) (h : B_X8_fail_20 N  m = some b) : G Γ 2 0 m 20 [(0, .ref (oa (gw Γ) 1))] [] := by
  unfold B_X8_fail_20 at h
  refine g_aload_n C dX8_fail_20 0 rfl rfl ?_
  refine g_iconst (v := (5 : Int32)) C dX8_fail_21 (by decide) ?_
  obtain ⟨m_1, e_1, h⟩ := wr_some h
  refine g_putI (ci := 8) (j := 4) C dX8_fail_22 rfl (by decide) rfl inT_X8 (by decide) k_238 tyX8 tyX8_ok nmX8 rfl rfl rfl rfl rfl (G_m e_1 ?_)
  obtain rfl := Option.some.inj h
  exact hE 25 _ dX8_fail_25
set_option maxRecDepth 100000 in
set_option maxHeartbeats 4000000 in
theorem t_X8_fail (N : Nat) (Γ : Gc) (C : Cx Γ cX8_fail 2 RX8 (rmK 0 0 0)) (v1 : Int32) (m : Mem) (b : Mem) (h : f_X8_fail N v1 m = some b) (hE : EVn Γ 2 cX8_fail b) : G Γ 2 0 m 0 [(0, .ref (oa (gw Γ) 1)), (1, .int v1)] [] := by
  unfold f_X8_fail at h
  refine g_aload_n C dX8_fail_0 0 rfl rfl ?_
  refine g_getI (ci := 8) (j := 2) C dX8_fail_1 rfl (by decide) rfl inT_X8 (by decide) k_247 rfl rfl ?_
  refine g_if_ne (tgt := 20) C dX8_fail_4 (by decide) (fun c_4 => ?_) (fun c_4 => ?_)
  · replace h := it_f c_4 h
    refine g_sub [0] rfl ?_
    exact t_X8_fail_20 N Γ C b hE  m h
  · replace h := it_t c_4 h
    refine g_aload_n C dX8_fail_7 0 rfl rfl ?_
    refine g_iload_n C dX8_fail_8 1 rfl rfl ?_
    obtain ⟨m_2, e_2, h⟩ := wr_some h
    refine g_putI (ci := 8) (j := 2) C dX8_fail_9 rfl (by decide) rfl inT_X8 (by decide) k_247 tyX8 tyX8_ok nmX8 rfl rfl rfl rfl rfl (G_m e_2 ?_)
    refine g_aload_n C dX8_fail_12 0 rfl rfl ?_
    refine g_aload_n C dX8_fail_13 0 rfl rfl ?_
    refine g_getI (ci := 8) (j := 5) C dX8_fail_14 rfl (by decide) rfl inT_X8 (by decide) k_236 rfl rfl ?_
    obtain ⟨m_3, e_3, h⟩ := wr_some h
    refine g_putI (ci := 8) (j := 3) C dX8_fail_17 rfl (by decide) rfl inT_X8 (by decide) k_248 tyX8 tyX8_ok nmX8 rfl rfl rfl rfl rfl (G_m e_3 ?_)
    refine g_sub [0] rfl ?_
    exact t_X8_fail_20 N Γ C b hE  m_3 h
theorem c_X8_fail (N : Nat) (l : Launch) (hst : l.stackTraces = false) (w : Om) (v1 : Int32) (m : Mem) (o : Mem) (h : f_X8_fail N v1 m = some o) : KV l yX8_fail cX8_fail 2 none 0 0 w [.ref (oa w 1), .int v1] m o := KV_of hst (by decide +kernel) RX8 rfl (Nat.le_of_ble_eq_true rfl) (fun Γ hw hl C hE => by
  subst hw; subst hl
  exact t_X8_fail N Γ C v1 m o h hE)
set_option maxRecDepth 100000 in
set_option maxHeartbeats 4000000 in
theorem t_X8_readSemicolon (N : Nat) (Γ : Gc) (C : Cx Γ cX8_readSemicolon 1 RX8 (rmK 2 41 0))  (m : Mem) (b : Mem) (h : f_X8_readSemicolon N  m = some b) (hE : EVn Γ 1 cX8_readSemicolon b) : G Γ 1 0 m 0 [(0, .ref (oa (gw Γ) 1))] [] := by
  unfold f_X8_readSemicolon at h
  refine g_aload_n C dX8_readSemicolon_0 0 rfl rfl ?_
  refine g_getI (ci := 8) (j := 4) C dX8_readSemicolon_1 rfl (by decide) rfl inT_X8 (by decide) k_238 rfl rfl ?_
  refine g_iconst (v := (4 : Int32)) C dX8_readSemicolon_4 (by decide) ?_
  refine g_icmp_eq (tgt := 14) C dX8_readSemicolon_5 (by decide) (fun c_3 => ?_) (fun c_3 => ?_)
  · replace h := it_t c_3 h
    refine g_aload_n C dX8_readSemicolon_14 0 rfl rfl ?_
    obtain ⟨m_1, hk_1, h⟩ := b1_some h
    refine g_vV (As := []) (a := 1) (ci := 8) C dX8_readSemicolon_15 mf_X8_nextToken k_249 rfl (by decide) ⟨by decide, by decide⟩ rfl rfl (Nat.le_of_ble_eq_true rfl) (by decide) rfl (c_X8_nextToken N (gl Γ) C.2.2.2.2 (gw Γ)  m _ hk_1) ?_
    obtain rfl := Option.some.inj h
    exact hE 18 _ dX8_readSemicolon_18
  · replace h := it_f c_3 h
    refine g_aload_n C dX8_readSemicolon_8 0 rfl rfl ?_
    refine g_iconst (v := (1 : Int32)) C dX8_readSemicolon_9 (by decide) ?_
    obtain ⟨m_2, hk_2, h⟩ := b1_some h
    refine g_vV (As := [.int (1 : Int32)]) (a := 1) (ci := 8) C dX8_readSemicolon_10 mf_X8_fail k_253 rfl (by decide) ⟨by decide, by decide⟩ rfl rfl (Nat.le_of_ble_eq_true rfl) (by decide) rfl (c_X8_fail N (gl Γ) C.2.2.2.2 (gw Γ) (1 : Int32) m _ hk_2) ?_
    obtain rfl := Option.some.inj h
    exact hE 13 _ dX8_readSemicolon_13
theorem c_X8_readSemicolon (N : Nat) (l : Launch) (hst : l.stackTraces = false) (w : Om)  (m : Mem) (o : Mem) (h : f_X8_readSemicolon N  m = some o) : KV l yX8_readSemicolon cX8_readSemicolon 1 none 2 41 w [.ref (oa w 1)] m o := KV_of hst (by decide +kernel) RX8 rfl (Nat.le_of_ble_eq_true rfl) (fun Γ hw hl C hE => by
  subst hw; subst hl
  exact t_X8_readSemicolon N Γ C  m o h hE)
def Ex_X8_isWord_28 (Γ : Gc) (cs : Nat) (b : (Mem) ⊕ (Mem)) : Prop := (∀  (m' : Mem), b = .inl (m') → G Γ 3 cs m' 63 [] []) ∧ (∀  (m' : Mem), b = .inr (m') → G Γ 3 cs m' 55 [] [])
set_option maxRecDepth 100000 in
set_option maxHeartbeats 4000000 in
theorem t_X8_isWord_28 (N : Nat) (Γ : Gc) (C : Cx Γ cX8_isWord 3 RX8 (rmK 5 160 0)) (rc : Nat → Int32 → Mem → Option ((Mem) ⊕ (Mem))) (b : (Mem) ⊕ (Mem)) (hE : Ex_X8_isWord_28 Γ 0 b) (hrec : ∀ (v1 : Nat) (v2 : Int32) (m : Mem) (b : (Mem) ⊕ (Mem)), rc v1 v2 m = some b → Ex_X8_isWord_28 Γ 0 b → G Γ 3 0 m 28 [(0, .ref (oa (gw Γ) 1)), (1, .ref (oK (gw Γ) v1)), (2, .int v2)] []) (v1 : Nat) (v2 : Int32) (m : Mem) (h : T_X8_isWord_28 N rc v1 v2 m = some b) : G Γ 3 0 m 28 [(0, .ref (oa (gw Γ) 1)), (1, .ref (oK (gw Γ) v1)), (2, .int v2)] [] := by
  unfold T_X8_isWord_28 at h
  refine g_iload_n C dX8_isWord_28 2 rfl rfl ?_
  refine g_aload_n C dX8_isWord_29 1 rfl rfl ?_
  obtain ⟨g_2, h⟩ := gd_some h
  refine g_strlen C dX8_isWord_30 k_258 (by decide) (by decide) (Nat.le_of_ble_eq_true rfl) (by decide) g_2 ?_
  refine g_icmp_ge (tgt := 63) C dX8_isWord_33 (by decide) (fun c_6 => ?_) (fun c_6 => ?_)
  · replace h := it_t c_6 h
    obtain rfl := Option.some.inj h
    refine g_sub [] rfl ?_
    exact hE.1 _ rfl
  · replace h := it_f c_6 h
    refine g_aload_n C dX8_isWord_36 0 rfl rfl ?_
    refine g_getT (b := 2) (ci := 8) (j := 0) C dX8_isWord_37 rfl (by decide) rfl inT_X8 (by decide) k_234 rfl rfl rfl rfl ?_
    refine g_aload_n C dX8_isWord_40 0 rfl rfl ?_
    refine g_getI (ci := 8) (j := 5) C dX8_isWord_41 rfl (by decide) rfl inT_X8 (by decide) k_236 rfl rfl ?_
    refine g_iload_n C dX8_isWord_44 2 rfl rfl ?_
    refine g_iadd C dX8_isWord_45 ?_
    obtain ⟨g_3, h⟩ := gd_some h
    refine g_bald C dX8_isWord_46 (okA_of rfl rfl g_3) ?_
    refine g_aload_n C dX8_isWord_47 1 rfl rfl ?_
    refine g_iload_n C dX8_isWord_48 2 rfl rfl ?_
    obtain ⟨g_4, h⟩ := gd_some h
    refine g_charAt C dX8_isWord_49 k_257 (by decide) (by decide) (Nat.le_of_ble_eq_true rfl) (by decide) g_4 ?_
    refine g_icmp_eq (tgt := 57) C dX8_isWord_52 (by decide) (fun c_5 => ?_) (fun c_5 => ?_)
    · replace h := it_t c_5 h
      refine g_iinc (q := 2) (v := v2 + (1 : Int32)) (lv' := [(2, .int (v2 + (1 : Int32))), (0, .ref (oa (gw Γ) 1)), (1, .ref (oK (gw Γ) v1))]) C dX8_isWord_57 rfl rfl (by decide) rfl ?_
      refine g_goto (tgt := 28) C dX8_isWord_60 (by decide) ?_
      refine g_sub [1, 2, 0] rfl ?_
      exact hrec v1 (v2 + (1 : Int32)) m b h hE
    · replace h := it_f c_5 h
      obtain rfl := Option.some.inj h
      refine g_sub [] rfl ?_
      exact hE.2 _ rfl
theorem lt_X8_isWord_28 (N : Nat) (Γ : Gc) (C : Cx Γ cX8_isWord 3 RX8 (rmK 5 160 0)) : ∀ (n : Nat) (v1 : Nat) (v2 : Int32) (m : Mem) (b : (Mem) ⊕ (Mem)), L_X8_isWord_28 N n v1 v2 m = some b → Ex_X8_isWord_28 Γ 0 b → G Γ 3 0 m 28 [(0, .ref (oa (gw Γ) 1)), (1, .ref (oK (gw Γ) v1)), (2, .int v2)] [] := by
  intro n
  induction n with
  | zero =>
    intro v1 v2 m b h
    have h9 : (none : Option ((Mem) ⊕ (Mem))) = some b := h
    cases h9
  | succ n ih => intro v1 v2 m b h hE; exact t_X8_isWord_28 N Γ C (L_X8_isWord_28 N n) b hE ih v1 v2 m h
set_option maxRecDepth 100000 in
set_option maxHeartbeats 4000000 in
theorem t_X8_isWord (N : Nat) (Γ : Gc) (C : Cx Γ cX8_isWord 3 RX8 (rmK 5 160 0)) (v1 : Nat) (m : Mem) (b : Int32 × Mem) (h : f_X8_isWord N v1 m = some b) (hE : EZn Γ 3 cX8_isWord b) : G Γ 3 0 m 0 [(0, .ref (oa (gw Γ) 1)), (1, .ref (oK (gw Γ) v1))] [] := by
  unfold f_X8_isWord at h
  refine g_aload_n C dX8_isWord_0 0 rfl rfl ?_
  refine g_getI (ci := 8) (j := 4) C dX8_isWord_1 rfl (by decide) rfl inT_X8 (by decide) k_238 rfl rfl ?_
  refine g_iconst (v := (2 : Int32)) C dX8_isWord_4 (by decide) ?_
  refine g_icmp_ne (tgt := 24) C dX8_isWord_5 (by decide) (fun c_9 => ?_) (fun c_9 => ?_)
  · replace h := it_f c_9 h
    refine g_iconst (v := (0 : Int32)) C dX8_isWord_24 (by decide) ?_
    obtain rfl := Option.some.inj h
    exact hE 25 _ (show isB (0 : Int32) = true by decide) dX8_isWord_25
  · replace h := it_t c_9 h
    refine g_aload_n C dX8_isWord_8 0 rfl rfl ?_
    refine g_getI (ci := 8) (j := 6) C dX8_isWord_9 rfl (by decide) rfl inT_X8 (by decide) k_235 rfl rfl ?_
    refine g_aload_n C dX8_isWord_12 0 rfl rfl ?_
    refine g_getI (ci := 8) (j := 5) C dX8_isWord_13 rfl (by decide) rfl inT_X8 (by decide) k_236 rfl rfl ?_
    refine g_isub C dX8_isWord_16 ?_
    refine g_aload_n C dX8_isWord_17 1 rfl rfl ?_
    obtain ⟨g_1, h⟩ := gd_some h
    refine g_strlen C dX8_isWord_18 k_258 (by decide) (by decide) (Nat.le_of_ble_eq_true rfl) (by decide) g_1 ?_
    refine g_icmp_eq (tgt := 26) C dX8_isWord_21 (by decide) (fun c_8 => ?_) (fun c_8 => ?_)
    · replace h := it_t c_8 h
      refine g_iconst (v := (0 : Int32)) C dX8_isWord_26 (by decide) ?_
      refine g_istore_n (lv' := [(2, .int (0 : Int32)), (0, .ref (oa (gw Γ) 1)), (1, .ref (oK (gw Γ) v1))]) C dX8_isWord_27 rfl (by decide) rfl ?_
      obtain ⟨x9, hx, h⟩ := ob_some h
      refine g_sub [1, 2, 0] rfl ?_
      refine lt_X8_isWord_28 N Γ C N v1 (0 : Int32) m _ hx ?_
      refine ⟨?_, ?_⟩
      · intro  m_7 e9
        subst e9
        replace h : (some ((1 : Int32), m_7)) = some b := h
        refine g_iconst (v := (1 : Int32)) C dX8_isWord_63 (by decide) ?_
        obtain rfl := Option.some.inj h
        exact hE 64 _ (show isB (1 : Int32) = true by decide) dX8_isWord_64
      · intro  m_7 e9
        subst e9
        replace h : (some ((0 : Int32), m_7)) = some b := h
        refine g_iconst (v := (0 : Int32)) C dX8_isWord_55 (by decide) ?_
        obtain rfl := Option.some.inj h
        exact hE 56 _ (show isB (0 : Int32) = true by decide) dX8_isWord_56
    · replace h := it_f c_8 h
      refine g_iconst (v := (0 : Int32)) C dX8_isWord_24 (by decide) ?_
      obtain rfl := Option.some.inj h
      exact hE 25 _ (show isB (0 : Int32) = true by decide) dX8_isWord_25
theorem c_X8_isWord (N : Nat) (l : Launch) (hst : l.stackTraces = false) (w : Om) (v1 : Nat) (m : Mem) (o : Int32 × Mem) (h : f_X8_isWord N v1 m = some o) : KI l yX8_isWord cX8_isWord 3 (some .boolean) 5 160 w [.ref (oa w 1), .ref (oK w v1)] m o.1 o.2 := KZ_of hst (by decide +kernel) RX8 rfl (Nat.le_of_ble_eq_true rfl) (fun Γ hw hl C hE => by
  subst hw; subst hl
  exact t_X8_isWord N Γ C v1 m o h hE)
set_option maxRecDepth 100000 in
set_option maxHeartbeats 4000000 in
theorem t_X8_readNumber_31 (N : Nat) (Γ : Gc) (C : Cx Γ cX8_readNumber 4 RX8 (rmK 2 41 0)) (b : Int32 × Mem) (hE : EIn Γ 4 cX8_readNumber b)  (m : Mem) (h : B_X8_readNumber_31 N  m = some b) : G Γ 4 0 m 31 [(0, .ref (oa (gw Γ) 1))] [] := by
  unfold B_X8_readNumber_31 at h
  refine g_aload_n C dX8_readNumber_31 0 rfl rfl ?_
  refine g_iconst (v := (2 : Int32)) C dX8_readNumber_32 (by decide) ?_
  obtain ⟨m_1, hk_1, h⟩ := b1_some h
  refine g_vV (As := [.int (2 : Int32)]) (a := 1) (ci := 8) C dX8_readNumber_33 mf_X8_fail k_253 rfl (by decide) ⟨by decide, by decide⟩ rfl rfl (Nat.le_of_ble_eq_true rfl) (by decide) rfl (c_X8_fail N (gl Γ) C.2.2.2.2 (gw Γ) (2 : Int32) m _ hk_1) ?_
  refine g_iconst (v := (-1 : Int32)) C dX8_readNumber_36 (by decide) ?_
  obtain rfl := Option.some.inj h
  exact hE 37 _ dX8_readNumber_37
set_option maxRecDepth 100000 in
set_option maxHeartbeats 4000000 in
theorem t_X8_readNumber (N : Nat) (Γ : Gc) (C : Cx Γ cX8_readNumber 4 RX8 (rmK 2 41 0)) (v1 : Int32) (v2 : Int32) (m : Mem) (b : Int32 × Mem) (h : f_X8_readNumber N v1 v2 m = some b) (hE : EIn Γ 4 cX8_readNumber b) : G Γ 4 0 m 0 [(0, .ref (oa (gw Γ) 1)), (1, .int v1), (2, .int v2)] [] := by
  unfold f_X8_readNumber at h
  refine g_aload_n C dX8_readNumber_0 0 rfl rfl ?_
  refine g_getI (ci := 8) (j := 4) C dX8_readNumber_1 rfl (by decide) rfl inT_X8 (by decide) k_238 rfl rfl ?_
  refine g_iconst (v := (3 : Int32)) C dX8_readNumber_4 (by decide) ?_
  refine g_icmp_eq (tgt := 15) C dX8_readNumber_5 (by decide) (fun c_6 => ?_) (fun c_6 => ?_)
  · replace h := it_t c_6 h
    refine g_aload_n C dX8_readNumber_15 0 rfl rfl ?_
    refine g_getI (ci := 8) (j := 7) C dX8_readNumber_16 rfl (by decide) rfl inT_X8 (by decide) k_237 rfl rfl ?_
    refine g_iload_n C dX8_readNumber_19 1 rfl rfl ?_
    refine g_icmp_lt (tgt := 31) C dX8_readNumber_20 (by decide) (fun c_4 => ?_) (fun c_4 => ?_)
    · replace h := it_t c_4 h
      refine g_sub [0] rfl ?_
      exact t_X8_readNumber_31 N Γ C b hE  m h
    · replace h := it_f c_4 h
      refine g_aload_n C dX8_readNumber_23 0 rfl rfl ?_
      refine g_getI (ci := 8) (j := 7) C dX8_readNumber_24 rfl (by decide) rfl inT_X8 (by decide) k_237 rfl rfl ?_
      refine g_iload_n C dX8_readNumber_27 2 rfl rfl ?_
      refine g_icmp_le (tgt := 38) C dX8_readNumber_28 (by decide) (fun c_3 => ?_) (fun c_3 => ?_)
      · replace h := it_t c_3 h
        refine g_aload_n C dX8_readNumber_38 0 rfl rfl ?_
        refine g_getI (ci := 8) (j := 7) C dX8_readNumber_39 rfl (by decide) rfl inT_X8 (by decide) k_237 rfl rfl ?_
        refine g_istore_n (lv' := [(3, .int (gI m 1 7)), (0, .ref (oa (gw Γ) 1)), (1, .int v1), (2, .int v2)]) C dX8_readNumber_42 rfl (by decide) rfl ?_
        refine g_aload_n C dX8_readNumber_43 1 rfl rfl ?_
        obtain ⟨m_2, hk_2, h⟩ := b1_some h
        refine g_vV (As := []) (a := 1) (ci := 8) C dX8_readNumber_44 mf_X8_nextToken k_249 rfl (by decide) ⟨by decide, by decide⟩ rfl rfl (Nat.le_of_ble_eq_true rfl) (by decide) rfl (c_X8_nextToken N (gl Γ) C.2.2.2.2 (gw Γ)  m _ hk_2) ?_
        refine g_iload_n C dX8_readNumber_47 0 rfl rfl ?_
        obtain rfl := Option.some.inj h
        exact hE 48 _ dX8_readNumber_48
      · replace h := it_f c_3 h
        refine g_sub [0] rfl ?_
        exact t_X8_readNumber_31 N Γ C b hE  m h
  · replace h := it_f c_6 h
    refine g_aload_n C dX8_readNumber_8 0 rfl rfl ?_
    refine g_iconst (v := (1 : Int32)) C dX8_readNumber_9 (by decide) ?_
    obtain ⟨m_5, hk_5, h⟩ := b1_some h
    refine g_vV (As := [.int (1 : Int32)]) (a := 1) (ci := 8) C dX8_readNumber_10 mf_X8_fail k_253 rfl (by decide) ⟨by decide, by decide⟩ rfl rfl (Nat.le_of_ble_eq_true rfl) (by decide) rfl (c_X8_fail N (gl Γ) C.2.2.2.2 (gw Γ) (1 : Int32) m _ hk_5) ?_
    refine g_iconst (v := (-1 : Int32)) C dX8_readNumber_13 (by decide) ?_
    obtain rfl := Option.some.inj h
    exact hE 14 _ dX8_readNumber_14
theorem c_X8_readNumber (N : Nat) (l : Launch) (hst : l.stackTraces = false) (w : Om) (v1 : Int32) (v2 : Int32) (m : Mem) (o : Int32 × Mem) (h : f_X8_readNumber N v1 v2 m = some o) : KI l yX8_readNumber cX8_readNumber 4 (some .int) 2 41 w [.ref (oa w 1), .int v1, .int v2] m o.1 o.2 := KI_of hst (by decide +kernel) RX8 rfl (Nat.le_of_ble_eq_true rfl) (fun Γ hw hl C hE => by
  subst hw; subst hl
  exact t_X8_readNumber N Γ C v1 v2 m o h hE)
