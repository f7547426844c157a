set_option maxRecDepth 100000 in
set_option maxHeartbeats 4000000 in
theorem t_X8_readConflict (N : Nat) (Γ : Gc) (C : Cx Γ cX8_readConflict 4 RX8 (rmK 3 64 0)) (v1 : Nat) (m : Mem) (b : Mem) (h : f_X8_readConflict N v1 m = some b) (hE : EVn Γ 4 cX8_readConflict b) : G Γ 4 0 m 0 [(0, .ref (oa (gw Γ) 1)), (1, .ref (oa (gw Γ) v1))] [] := by
  unfold f_X8_readConflict at h
  refine g_aload_n C dX8_readConflict_0 0 rfl rfl ?_
  obtain ⟨m_1, hk_1, h⟩ := b1_some h
  refine g_vV (As := []) (a := 1) (ci := 8) C dX8_readConflict_1 mf_X8_nextToken k_249 rfl (by decide) ⟨by decide, by decide⟩ rfl rfl (Nat.le_of_ble_eq_true rfl) (by decide) rfl (c_X8_nextToken N (gl Γ) C.2.2.2.2 (gw Γ)  m _ hk_1) ?_
  refine g_aload_n C dX8_readConflict_4 0 rfl rfl ?_
  refine g_iconst (v := (0 : Int32)) C dX8_readConflict_5 (by decide) ?_
  refine g_aload_n C dX8_readConflict_6 1 rfl rfl ?_
  obtain ⟨g_2, h⟩ := gd_some h
  refine g_getI (ci := 6) (j := 1) C dX8_readConflict_7 rfl (by decide) rfl inT_X6 (by decide) k_259 rfl g_2 ?_
  refine g_iconst (v := (1 : Int32)) C dX8_readConflict_10 (by decide) ?_
  refine g_isub C dX8_readConflict_11 ?_
  obtain ⟨r_3, m_3, hk_3, h⟩ := b2_some h
  refine g_vI (As := [.int (0 : Int32), .int ((gI m_1 v1 1) - (1 : Int32))]) (a := 1) (ci := 8) C dX8_readConflict_12 mf_X8_readNumber k_260 rfl (by decide) ⟨by decide, by decide⟩ rfl rfl (Nat.le_of_ble_eq_true rfl) (by decide) rfl (c_X8_readNumber N (gl Γ) C.2.2.2.2 (gw Γ) (0 : Int32) ((gI m_1 v1 1) - (1 : Int32)) m_1 _ hk_3) ?_
  refine g_istore_n (lv' := [(2, .int r_3), (0, .ref (oa (gw Γ) 1)), (1, .ref (oa (gw Γ) v1))]) C dX8_readConflict_15 rfl (by decide) rfl ?_
  refine g_aload_n C dX8_readConflict_16 1 rfl rfl ?_
  refine g_iconst (v := (0 : Int32)) C dX8_readConflict_17 (by decide) ?_
  refine g_aload_n C dX8_readConflict_18 2 rfl rfl ?_
  refine g_getI (ci := 6) (j := 2) C dX8_readConflict_19 rfl (by decide) rfl inT_X6 (by decide) k_264 rfl g_2 ?_
  refine g_iconst (v := (1 : Int32)) C dX8_readConflict_22 (by decide) ?_
  refine g_isub C dX8_readConflict_23 ?_
  obtain ⟨r_4, m_4, hk_4, h⟩ := b2_some h
  refine g_vI (As := [.int (0 : Int32), .int ((gI m_3 v1 2) - (1 : Int32))]) (a := 1) (ci := 8) C dX8_readConflict_24 mf_X8_readNumber k_260 rfl (by decide) ⟨by decide, by decide⟩ rfl rfl (Nat.le_of_ble_eq_true rfl) (by decide) rfl (c_X8_readNumber N (gl Γ) C.2.2.2.2 (gw Γ) (0 : Int32) ((gI m_3 v1 2) - (1 : Int32)) m_3 _ hk_4) ?_
  refine g_istore_n (lv' := [(3, .int r_4), (2, .int r_3), (0, .ref (oa (gw Γ) 1)), (1, .ref (oa (gw Γ) v1))]) C dX8_readConflict_27 rfl (by decide) rfl ?_
  refine g_iload_n C dX8_readConflict_28 1 rfl rfl ?_
  refine g_iconst (v := (-1 : Int32)) C dX8_readConflict_29 (by decide) ?_
  refine g_icmp_eq (tgt := 50) C dX8_readConflict_30 (by decide) (fun c_8 => ?_) (fun c_8 => ?_)
  · replace h := it_t c_8 h
    obtain rfl := Option.some.inj h
    exact hE 50 _ dX8_readConflict_50
  · replace h := it_f c_8 h
    refine g_iload_n C dX8_readConflict_33 0 rfl rfl ?_
    refine g_iconst (v := (-1 : Int32)) C dX8_readConflict_34 (by decide) ?_
    refine g_icmp_eq (tgt := 50) C dX8_readConflict_35 (by decide) (fun c_7 => ?_) (fun c_7 => ?_)
    · replace h := it_t c_7 h
      obtain rfl := Option.some.inj h
      exact hE 50 _ dX8_readConflict_50
    · replace h := it_f c_7 h
      refine g_aload_n C dX8_readConflict_38 3 rfl rfl ?_
      refine g_getT (b := rt v1 8) (ci := 6) (j := 8) C dX8_readConflict_39 rfl (by decide) rfl inT_X6 (by decide) k_265 rfl rfl rfl g_2 ?_
      refine g_iload_n C dX8_readConflict_42 1 rfl rfl ?_
      refine g_dup2 C dX8_readConflict_43 rfl rfl ?_
      obtain ⟨g_5, h⟩ := gd_some h
      refine g_iald C dX8_readConflict_44 g_5 ?_
      refine g_iconst (v := (1 : Int32)) C dX8_readConflict_45 (by decide) ?_
      refine g_iload_n C dX8_readConflict_46 0 rfl rfl ?_
      refine g_ishl C dX8_readConflict_47 ?_
      refine g_ior C dX8_readConflict_48 ?_
      obtain ⟨m_6, e_6, h⟩ := wr_some h
      refine g_iast C dX8_readConflict_49 g_5 (G_m e_6 ?_)
      obtain rfl := Option.some.inj h
      exact hE 50 _ dX8_readConflict_50
theorem c_X8_readConflict (N : Nat) (l : Launch) (hst : l.stackTraces = false) (w : Om) (v1 : Nat) (m : Mem) (o : Mem) (h : f_X8_readConflict N v1 m = some o) : KV l yX8_readConflict cX8_readConflict 4 none 3 64 w [.ref (oa w 1), .ref (oa w v1)] m o := KV_of hst (by decide +kernel) RX8 rfl (Nat.le_of_ble_eq_true rfl) (fun Γ hw hl C hE => by
  subst hw; subst hl
  exact t_X8_readConflict N Γ C v1 m o h hE)
set_option maxRecDepth 100000 in
set_option maxHeartbeats 4000000 in
theorem t_X8_readPanel (N : Nat) (Γ : Gc) (C : Cx Γ cX8_readPanel 3 RX8 (rmK 3 64 0)) (v1 : Nat) (m : Mem) (b : Mem) (h : f_X8_readPanel N v1 m = some b) (hE : EVn Γ 3 cX8_readPanel b) : G Γ 3 0 m 0 [(0, .ref (oa (gw Γ) 1)), (1, .ref (oa (gw Γ) v1))] [] := by
  unfold f_X8_readPanel at h
  refine g_aload_n C dX8_readPanel_0 1 rfl rfl ?_
  obtain ⟨g_1, h⟩ := gd_some h
  refine g_getI (ci := 6) (j := 0) C dX8_readPanel_1 rfl (by decide) rfl inT_X6 (by decide) k_266 rfl g_1 ?_
  refine g_istore_n (lv' := [(2, .int (gI m v1 0)), (0, .ref (oa (gw Γ) 1)), (1, .ref (oa (gw Γ) v1))]) C dX8_readPanel_4 rfl (by decide) rfl ?_
  refine g_iload_n C dX8_readPanel_5 0 rfl rfl ?_
  refine g_iconst (v := (4 : Int32)) C dX8_readPanel_6 (by decide) ?_
  refine g_icmp_lt (tgt := 16) C dX8_readPanel_7 (by decide) (fun c_8 => ?_) (fun c_8 => ?_)
  · replace h := it_t c_8 h
    refine g_aload_n C dX8_readPanel_16 1 rfl rfl ?_
    obtain ⟨m_2, hk_2, h⟩ := b1_some h
    refine g_vV (As := []) (a := 1) (ci := 8) C dX8_readPanel_17 mf_X8_nextToken k_249 rfl (by decide) ⟨by decide, by decide⟩ rfl rfl (Nat.le_of_ble_eq_true rfl) (by decide) rfl (c_X8_nextToken N (gl Γ) C.2.2.2.2 (gw Γ)  m _ hk_2) ?_
    refine g_aload_n C dX8_readPanel_20 2 rfl rfl ?_
    refine g_getT (b := rt v1 3) (ci := 6) (j := 3) C dX8_readPanel_21 rfl (by decide) rfl inT_X6 (by decide) k_267 rfl rfl rfl g_1 ?_
    refine g_iload_n C dX8_readPanel_24 0 rfl rfl ?_
    refine g_aload_n C dX8_readPanel_25 1 rfl rfl ?_
    refine g_iconst (v := (0 : Int32)) C dX8_readPanel_26 (by decide) ?_
    refine g_ldc (v := (100000 : Int32)) C dX8_readPanel_27 k_268 ?_
    obtain ⟨r_3, m_3, hk_3, h⟩ := b2_some h
    refine g_vI (As := [.int (0 : Int32), .int (100000 : Int32)]) (a := 1) (ci := 8) C dX8_readPanel_29 mf_X8_readNumber k_260 rfl (by decide) ⟨by decide, by decide⟩ rfl rfl (Nat.le_of_ble_eq_true rfl) (by decide) rfl (c_X8_readNumber N (gl Γ) C.2.2.2.2 (gw Γ) (0 : Int32) (100000 : Int32) m_2 _ hk_3) ?_
    obtain ⟨g_4, h⟩ := gd_some h
    obtain ⟨m_5, e_5, h⟩ := wr_some h
    refine g_iast C dX8_readPanel_32 g_4 (G_m e_5 ?_)
    refine g_aload_n C dX8_readPanel_33 2 rfl rfl ?_
    refine g_iload_n C dX8_readPanel_34 0 rfl rfl ?_
    refine g_iconst (v := (1 : Int32)) C dX8_readPanel_35 (by decide) ?_
    refine g_iadd C dX8_readPanel_36 ?_
    obtain ⟨m_6, e_6, h⟩ := wr_some h
    refine g_putI (ci := 6) (j := 0) C dX8_readPanel_37 rfl (by decide) rfl inT_X6 (by decide) k_266 tyX6 tyX6_ok nmX6 rfl rfl g_1 rfl rfl (G_m e_6 ?_)
    obtain rfl := Option.some.inj h
    exact hE 40 _ dX8_readPanel_40
  · replace h := it_f c_8 h
    refine g_aload_n C dX8_readPanel_10 1 rfl rfl ?_
    refine g_iconst (v := (3 : Int32)) C dX8_readPanel_11 (by decide) ?_
    obtain ⟨m_7, hk_7, h⟩ := b1_some h
    refine g_vV (As := [.int (3 : Int32)]) (a := 1) (ci := 8) C dX8_readPanel_12 mf_X8_fail k_253 rfl (by decide) ⟨by decide, by decide⟩ rfl rfl (Nat.le_of_ble_eq_true rfl) (by decide) rfl (c_X8_fail N (gl Γ) C.2.2.2.2 (gw Γ) (3 : Int32) m _ hk_7) ?_
    obtain rfl := Option.some.inj h
    exact hE 15 _ dX8_readPanel_15
theorem c_X8_readPanel (N : Nat) (l : Launch) (hst : l.stackTraces = false) (w : Om) (v1 : Nat) (m : Mem) (o : Mem) (h : f_X8_readPanel N v1 m = some o) : KV l yX8_readPanel cX8_readPanel 3 none 3 64 w [.ref (oa w 1), .ref (oa w v1)] m o := KV_of hst (by decide +kernel) RX8 rfl (Nat.le_of_ble_eq_true rfl) (fun Γ hw hl C hE => by
  subst hw; subst hl
  exact t_X8_readPanel N Γ C v1 m o h hE)
set_option maxRecDepth 100000 in
set_option maxHeartbeats 4000000 in
theorem t_X8_readProposal_112 (N : Nat) (Γ : Gc) (C : Cx Γ cX8_readProposal 4 RX8 (rmK 6 182 0)) (b : Mem) (hE : EVn Γ 4 cX8_readProposal b) (v1 : Nat) (v2 : Int32) (m : Mem) (h : B_X8_readProposal_112 N v1 v2 m = some b) : G Γ 4 0 m 112 [(1, .ref (oa (gw Γ) v1)), (2, .int v2)] [] := by
  unfold B_X8_readProposal_112 at h
  refine g_aload_n C dX8_readProposal_112 0 rfl rfl ?_
  refine g_iload_n C dX8_readProposal_113 1 rfl rfl ?_
  refine g_iconst (v := (1 : Int32)) C dX8_readProposal_114 (by decide) ?_
  refine g_iadd C dX8_readProposal_115 ?_
  obtain ⟨g_18, h⟩ := gd_some h
  obtain ⟨m_19, e_19, h⟩ := wr_some h
  refine g_putI (ci := 6) (j := 2) C dX8_readProposal_116 rfl (by decide) rfl inT_X6 (by decide) k_264 tyX6 tyX6_ok nmX6 rfl rfl g_18 rfl rfl (G_m e_19 ?_)
  obtain rfl := Option.some.inj h
  exact hE 119 _ dX8_readProposal_119
set_option maxRecDepth 100000 in
set_option maxHeartbeats 4000000 in
theorem t_X8_readProposal (N : Nat) (Γ : Gc) (C : Cx Γ cX8_readProposal 4 RX8 (rmK 6 182 0)) (v1 : Nat) (m : Mem) (b : Mem) (h : f_X8_readProposal N v1 m = some b) (hE : EVn Γ 4 cX8_readProposal b) : G Γ 4 0 m 0 [(0, .ref (oa (gw Γ) 1)), (1, .ref (oa (gw Γ) v1))] [] := by
  unfold f_X8_readProposal at h
  refine g_aload_n C dX8_readProposal_0 1 rfl rfl ?_
  obtain ⟨g_1, h⟩ := gd_some h
  refine g_getI (ci := 6) (j := 2) C dX8_readProposal_1 rfl (by decide) rfl inT_X6 (by decide) k_264 rfl g_1 ?_
  refine g_istore_n (lv' := [(2, .int (gI m v1 2)), (0, .ref (oa (gw Γ) 1)), (1, .ref (oa (gw Γ) v1))]) C dX8_readProposal_4 rfl (by decide) rfl ?_
  refine g_iload_n C dX8_readProposal_5 0 rfl rfl ?_
  refine g_bipush (v := (16 : Int32)) C dX8_readProposal_6 (by decide) ?_
  refine g_icmp_lt (tgt := 17) C dX8_readProposal_8 (by decide) (fun c_25 => ?_) (fun c_25 => ?_)
  · replace h := it_t c_25 h
    refine g_aload_n C dX8_readProposal_17 1 rfl rfl ?_
    obtain ⟨m_2, hk_2, h⟩ := b1_some h
    refine g_vV (As := []) (a := 1) (ci := 8) C dX8_readProposal_18 mf_X8_nextToken k_249 rfl (by decide) ⟨by decide, by decide⟩ rfl rfl (Nat.le_of_ble_eq_true rfl) (by decide) rfl (c_X8_nextToken N (gl Γ) C.2.2.2.2 (gw Γ)  m _ hk_2) ?_
    refine g_aload_n C dX8_readProposal_21 2 rfl rfl ?_
    refine g_getT (b := rt v1 9) (ci := 6) (j := 9) C dX8_readProposal_22 rfl (by decide) rfl inT_X6 (by decide) k_269 rfl rfl rfl g_1 ?_
    refine g_iload_n C dX8_readProposal_25 0 rfl rfl ?_
    refine g_aload_n C dX8_readProposal_26 1 rfl rfl ?_
    refine g_iconst (v := (0 : Int32)) C dX8_readProposal_27 (by decide) ?_
    refine g_aload_n C dX8_readProposal_28 2 rfl rfl ?_
    refine g_getI (ci := 6) (j := 0) C dX8_readProposal_29 rfl (by decide) rfl inT_X6 (by decide) k_266 rfl g_1 ?_
    refine g_iconst (v := (1 : Int32)) C dX8_readProposal_32 (by decide) ?_
    refine g_isub C dX8_readProposal_33 ?_
    obtain ⟨r_3, m_3, hk_3, h⟩ := b2_some h
    refine g_vI (As := [.int (0 : Int32), .int ((gI m_2 v1 0) - (1 : Int32))]) (a := 1) (ci := 8) C dX8_readProposal_34 mf_X8_readNumber k_260 rfl (by decide) ⟨by decide, by decide⟩ rfl rfl (Nat.le_of_ble_eq_true rfl) (by decide) rfl (c_X8_readNumber N (gl Γ) C.2.2.2.2 (gw Γ) (0 : Int32) ((gI m_2 v1 0) - (1 : Int32)) m_2 _ hk_3) ?_
    obtain ⟨g_4, h⟩ := gd_some h
    obtain ⟨m_5, e_5, h⟩ := wr_some h
    refine g_iast C dX8_readProposal_37 g_4 (G_m e_5 ?_)
    refine g_aload_n C dX8_readProposal_38 2 rfl rfl ?_
    refine g_getT (b := rt v1 10) (ci := 6) (j := 10) C dX8_readProposal_39 rfl (by decide) rfl inT_X6 (by decide) k_270 rfl rfl rfl g_1 ?_
    refine g_iload_n C dX8_readProposal_42 0 rfl rfl ?_
    refine g_aload_n C dX8_readProposal_43 1 rfl rfl ?_
    refine g_iconst (v := (0 : Int32)) C dX8_readProposal_44 (by decide) ?_
    refine g_bipush (v := (9 : Int32)) C dX8_readProposal_45 (by decide) ?_
    obtain ⟨r_6, m_6, hk_6, h⟩ := b2_some h
    refine g_vI (As := [.int (0 : Int32), .int (9 : Int32)]) (a := 1) (ci := 8) C dX8_readProposal_47 mf_X8_readNumber k_260 rfl (by decide) ⟨by decide, by decide⟩ rfl rfl (Nat.le_of_ble_eq_true rfl) (by decide) rfl (c_X8_readNumber N (gl Γ) C.2.2.2.2 (gw Γ) (0 : Int32) (9 : Int32) m_5 _ hk_6) ?_
    obtain ⟨g_7, h⟩ := gd_some h
    obtain ⟨m_8, e_8, h⟩ := wr_some h
    refine g_iast C dX8_readProposal_50 g_7 (G_m e_8 ?_)
    refine g_aload_n C dX8_readProposal_51 2 rfl rfl ?_
    refine g_getT (b := rt v1 11) (ci := 6) (j := 11) C dX8_readProposal_52 rfl (by decide) rfl inT_X6 (by decide) k_271 rfl rfl rfl g_1 ?_
    refine g_iload_n C dX8_readProposal_55 0 rfl rfl ?_
    refine g_aload_n C dX8_readProposal_56 1 rfl rfl ?_
    refine g_iconst (v := (0 : Int32)) C dX8_readProposal_57 (by decide) ?_
    refine g_bipush (v := (7 : Int32)) C dX8_readProposal_58 (by decide) ?_
    obtain ⟨r_9, m_9, hk_9, h⟩ := b2_some h
    refine g_vI (As := [.int (0 : Int32), .int (7 : Int32)]) (a := 1) (ci := 8) C dX8_readProposal_60 mf_X8_readNumber k_260 rfl (by decide) ⟨by decide, by decide⟩ rfl rfl (Nat.le_of_ble_eq_true rfl) (by decide) rfl (c_X8_readNumber N (gl Γ) C.2.2.2.2 (gw Γ) (0 : Int32) (7 : Int32) m_8 _ hk_9) ?_
    obtain ⟨g_10, h⟩ := gd_some h
    obtain ⟨m_11, e_11, h⟩ := wr_some h
    refine g_iast C dX8_readProposal_63 g_10 (G_m e_11 ?_)
    refine g_aload_n C dX8_readProposal_64 1 rfl rfl ?_
    refine g_iconst (v := (1 : Int32)) C dX8_readProposal_65 (by decide) ?_
    refine g_sipush (v := (9999 : Int32)) C dX8_readProposal_66 (by decide) ?_
    obtain ⟨r_12, m_12, hk_12, h⟩ := b2_some h
    refine g_vI (As := [.int (1 : Int32), .int (9999 : Int32)]) (a := 1) (ci := 8) C dX8_readProposal_69 mf_X8_readNumber k_260 rfl (by decide) ⟨by decide, by decide⟩ rfl rfl (Nat.le_of_ble_eq_true rfl) (by decide) rfl (c_X8_readNumber N (gl Γ) C.2.2.2.2 (gw Γ) (1 : Int32) (9999 : Int32) m_11 _ hk_12) ?_
    refine g_istore_n (lv' := [(3, .int r_12), (2, .int (gI m v1 2)), (0, .ref (oa (gw Γ) 1)), (1, .ref (oa (gw Γ) v1))]) C dX8_readProposal_72 rfl (by decide) rfl ?_
    refine g_aload_n C dX8_readProposal_73 3 rfl rfl ?_
    refine g_getT (b := rt v1 12) (ci := 6) (j := 12) C dX8_readProposal_74 rfl (by decide) rfl inT_X6 (by decide) k_272 rfl rfl rfl g_1 ?_
    refine g_iload_n C dX8_readProposal_77 1 rfl rfl ?_
    refine g_iload_n C dX8_readProposal_78 0 rfl rfl ?_
    obtain ⟨g_13, h⟩ := gd_some h
    obtain ⟨m_14, e_14, h⟩ := wr_some h
    refine g_iast C dX8_readProposal_79 g_13 (G_m e_14 ?_)
    refine g_aload_n C dX8_readProposal_80 3 rfl rfl ?_
    refine g_getT (b := rt v1 13) (ci := 6) (j := 13) C dX8_readProposal_81 rfl (by decide) rfl inT_X6 (by decide) k_273 rfl rfl rfl g_1 ?_
    refine g_iload_n C dX8_readProposal_84 1 rfl rfl ?_
    refine g_iload_n C dX8_readProposal_85 0 rfl rfl ?_
    obtain ⟨g_15, h⟩ := gd_some h
    obtain ⟨m_16, e_16, h⟩ := wr_some h
    refine g_iast C dX8_readProposal_86 g_15 (G_m e_16 ?_)
    refine g_aload_n C dX8_readProposal_87 2 rfl rfl ?_
    refine g_ldcS (n := 4) C dX8_readProposal_88 (List.mem_of_getElem? (i := 4) rfl) ?_
    obtain ⟨r_17, m_17, hk_17, h⟩ := b2_some h
    refine g_vI (As := [.ref (oK (gw Γ) 4)]) (a := 1) (ci := 8) C dX8_readProposal_90 mf_X8_isWord k_274 rfl (by decide) ⟨by decide, by decide⟩ rfl rfl (Nat.le_of_ble_eq_true rfl) (by decide) rfl (c_X8_isWord N (gl Γ) C.2.2.2.2 (gw Γ) 4 m_16 _ hk_17) ?_
    refine g_if_eq (tgt := 112) C dX8_readProposal_93 (by decide) (fun c_23 => ?_) (fun c_23 => ?_)
    · replace h := it_t c_23 h
      refine g_sub [3, 1] rfl ?_
      exact t_X8_readProposal_112 N Γ C b hE v1 (gI m v1 2) m_17 h
    · replace h := it_f c_23 h
      refine g_aload_n C dX8_readProposal_96 2 rfl rfl ?_
      obtain ⟨m_20, hk_20, h⟩ := b1_some h
      refine g_vV (As := []) (a := 1) (ci := 8) C dX8_readProposal_97 mf_X8_nextToken k_249 rfl (by decide) ⟨by decide, by decide⟩ rfl rfl (Nat.le_of_ble_eq_true rfl) (by decide) rfl (c_X8_nextToken N (gl Γ) C.2.2.2.2 (gw Γ)  m_17 _ hk_20) ?_
      refine g_aload_n C dX8_readProposal_100 3 rfl rfl ?_
      refine g_getT (b := rt v1 13) (ci := 6) (j := 13) C dX8_readProposal_101 rfl (by decide) rfl inT_X6 (by decide) k_273 rfl rfl rfl g_1 ?_
      refine g_iload_n C dX8_readProposal_104 1 rfl rfl ?_
      refine g_aload_n C dX8_readProposal_105 2 rfl rfl ?_
      refine g_iconst (v := (1 : Int32)) C dX8_readProposal_106 (by decide) ?_
      refine g_iload_n C dX8_readProposal_107 0 rfl rfl ?_
      obtain ⟨r_21, m_21, hk_21, h⟩ := b2_some h
      refine g_vI (As := [.int (1 : Int32), .int r_12]) (a := 1) (ci := 8) C dX8_readProposal_108 mf_X8_readNumber k_260 rfl (by decide) ⟨by decide, by decide⟩ rfl rfl (Nat.le_of_ble_eq_true rfl) (by decide) rfl (c_X8_readNumber N (gl Γ) C.2.2.2.2 (gw Γ) (1 : Int32) r_12 m_20 _ hk_21) ?_
      obtain ⟨m_22, e_22, h⟩ := wr_some h
      refine g_iast C dX8_readProposal_111 g_15 (G_m e_22 ?_)
      refine g_sub [3, 1] rfl ?_
      exact t_X8_readProposal_112 N Γ C b hE v1 (gI m v1 2) m_22 h
  · replace h := it_f c_25 h
    refine g_aload_n C dX8_readProposal_11 1 rfl rfl ?_
    refine g_iconst (v := (3 : Int32)) C dX8_readProposal_12 (by decide) ?_
    obtain ⟨m_24, hk_24, h⟩ := b1_some h
    refine g_vV (As := [.int (3 : Int32)]) (a := 1) (ci := 8) C dX8_readProposal_13 mf_X8_fail k_253 rfl (by decide) ⟨by decide, by decide⟩ rfl rfl (Nat.le_of_ble_eq_true rfl) (by decide) rfl (c_X8_fail N (gl Γ) C.2.2.2.2 (gw Γ) (3 : Int32) m _ hk_24) ?_
    obtain rfl := Option.some.inj h
    exact hE 16 _ dX8_readProposal_16
theorem c_X8_readProposal (N : Nat) (l : Launch) (hst : l.stackTraces = false) (w : Om) (v1 : Nat) (m : Mem) (o : Mem) (h : f_X8_readProposal N v1 m = some o) : KV l yX8_readProposal cX8_readProposal 4 none 6 182 w [.ref (oa w 1), .ref (oa w v1)] m o := KV_of hst (by decide +kernel) RX8 rfl (Nat.le_of_ble_eq_true rfl) (fun Γ hw hl C hE => by
  subst hw; subst hl
  exact t_X8_readProposal N Γ C v1 m o h hE)
set_option maxRecDepth 100000 in
set_option maxHeartbeats 4000000 in
theorem t_X8_readTopicsWord (N : Nat) (Γ : Gc) (C : Cx Γ cX8_readTopicsWord 1 RX8 (rmK 6 182 0))  (m : Mem) (b : Mem) (h : f_X8_readTopicsWord N  m = some b) (hE : EVn Γ 1 cX8_readTopicsWord b) : G Γ 1 0 m 0 [(0, .ref (oa (gw Γ) 1))] [] := by
  unfold f_X8_readTopicsWord at h
  refine g_aload_n C dX8_readTopicsWord_0 0 rfl rfl ?_
  refine g_ldcS (n := 2) C dX8_readTopicsWord_1 (List.mem_of_getElem? (i := 2) rfl) ?_
  obtain ⟨r_1, m_1, hk_1, h⟩ := b2_some h
  refine g_vI (As := [.ref (oK (gw Γ) 2)]) (a := 1) (ci := 8) C dX8_readTopicsWord_3 mf_X8_isWord k_274 rfl (by decide) ⟨by decide, by decide⟩ rfl rfl (Nat.le_of_ble_eq_true rfl) (by decide) rfl (c_X8_isWord N (gl Γ) C.2.2.2.2 (gw Γ) 2 m _ hk_1) ?_
  refine g_if_ne (tgt := 15) C dX8_readTopicsWord_6 (by decide) (fun c_4 => ?_) (fun c_4 => ?_)
  · replace h := it_f c_4 h
    refine g_aload_n C dX8_readTopicsWord_15 0 rfl rfl ?_
    obtain ⟨m_2, hk_2, h⟩ := b1_some h
    refine g_vV (As := []) (a := 1) (ci := 8) C dX8_readTopicsWord_16 mf_X8_nextToken k_249 rfl (by decide) ⟨by decide, by decide⟩ rfl rfl (Nat.le_of_ble_eq_true rfl) (by decide) rfl (c_X8_nextToken N (gl Γ) C.2.2.2.2 (gw Γ)  m_1 _ hk_2) ?_
    obtain rfl := Option.some.inj h
    exact hE 19 _ dX8_readTopicsWord_19
  · replace h := it_t c_4 h
    refine g_aload_n C dX8_readTopicsWord_9 0 rfl rfl ?_
    refine g_iconst (v := (1 : Int32)) C dX8_readTopicsWord_10 (by decide) ?_
    obtain ⟨m_3, hk_3, h⟩ := b1_some h
    refine g_vV (As := [.int (1 : Int32)]) (a := 1) (ci := 8) C dX8_readTopicsWord_11 mf_X8_fail k_253 rfl (by decide) ⟨by decide, by decide⟩ rfl rfl (Nat.le_of_ble_eq_true rfl) (by decide) rfl (c_X8_fail N (gl Γ) C.2.2.2.2 (gw Γ) (1 : Int32) m_1 _ hk_3) ?_
    obtain rfl := Option.some.inj h
    exact hE 14 _ dX8_readTopicsWord_14
theorem c_X8_readTopicsWord (N : Nat) (l : Launch) (hst : l.stackTraces = false) (w : Om)  (m : Mem) (o : Mem) (h : f_X8_readTopicsWord N  m = some o) : KV l yX8_readTopicsWord cX8_readTopicsWord 1 none 6 182 w [.ref (oa w 1)] m o := KV_of hst (by decide +kernel) RX8 rfl (Nat.le_of_ble_eq_true rfl) (fun Γ hw hl C hE => by
  subst hw; subst hl
  exact t_X8_readTopicsWord N Γ C  m o h hE)
def Ex_X8_readReviewer_73 (Γ : Gc) (cs : Nat) (b : Nat × Int32 × Int32 × Mem) : Prop := (∀ (y1 : Nat) (y2 : Int32) (y3 : Int32) (m' : Mem), b = (y1, y2, y3, m') → G Γ 6 cs m' 122 [(1, .ref (oa (gw Γ) y1)), (2, .int y2), (3, .int y3)] [])
set_option maxRecDepth 100000 in
set_option maxHeartbeats 4000000 in
theorem t_X8_readReviewer_94 (N : Nat) (Γ : Gc) (C : Cx Γ cX8_readReviewer 6 RX8 (rmK 7 202 0)) (rc : Nat → Int32 → Int32 → Int32 → Mem → Option (Nat × Int32 × Int32 × Mem)) (b : Nat × Int32 × Int32 × Mem) (hE : Ex_X8_readReviewer_73 Γ 0 b) (hrec : ∀ (v1 : Nat) (v2 : Int32) (v3 : Int32) (v4 : Int32) (m : Mem) (b : Nat × Int32 × Int32 × Mem), rc v1 v2 v3 v4 m = some b → Ex_X8_readReviewer_73 Γ 0 b → G Γ 6 0 m 73 [(0, .ref (oa (gw Γ) 1)), (1, .ref (oa (gw Γ) v1)), (2, .int v2), (3, .int v3), (4, .int v4)] []) (v1 : Nat) (v2 : Int32) (v3 : Int32) (v4 : Int32) (m : Mem) (h : B_X8_readReviewer_94 N rc v1 v2 v3 v4 m = some b) : G Γ 6 0 m 94 [(0, .ref (oa (gw Γ) 1)), (1, .ref (oa (gw Γ) v1)), (2, .int v2), (3, .int v3), (4, .int v4)] [] := by
  unfold B_X8_readReviewer_94 at h
  refine g_aload_n C dX8_readReviewer_94 0 rfl rfl ?_
  refine g_iconst (v := (0 : Int32)) C dX8_readReviewer_95 (by decide) ?_
  refine g_bipush (v := (7 : Int32)) C dX8_readReviewer_96 (by decide) ?_
  obtain ⟨r_13, m_13, hk_13, h⟩ := b2_some h
  refine g_vI (As := [.int (0 : Int32), .int (7 : Int32)]) (a := 1) (ci := 8) C dX8_readReviewer_98 mf_X8_readNumber k_260 rfl (by decide) ⟨by decide, by decide⟩ rfl rfl (Nat.le_of_ble_eq_true rfl) (by decide) rfl (c_X8_readNumber N (gl Γ) C.2.2.2.2 (gw Γ) (0 : Int32) (7 : Int32) m _ hk_13) ?_
  refine g_istore (lv' := [(5, .int r_13), (0, .ref (oa (gw Γ) 1)), (1, .ref (oa (gw Γ) v1)), (2, .int v2), (3, .int v3), (4, .int v4)]) C dX8_readReviewer_101 (by decide) rfl ?_
  refine g_iload C dX8_readReviewer_103 0 rfl ?_
  refine g_iconst (v := (-1 : Int32)) C dX8_readReviewer_105 (by decide) ?_
  refine g_icmp_eq (tgt := 116) C dX8_readReviewer_106 (by decide) (fun c_14 => ?_) (fun c_14 => ?_)
  · replace h := it_t c_14 h
    refine g_iinc (q := 5) (v := v4 + (1 : Int32)) (lv' := [(4, .int (v4 + (1 : Int32))), (5, .int r_13), (0, .ref (oa (gw Γ) 1)), (1, .ref (oa (gw Γ) v1)), (2, .int v2), (3, .int v3)]) C dX8_readReviewer_116 rfl rfl (by decide) rfl ?_
    refine g_goto (tgt := 73) C dX8_readReviewer_119 (by decide) ?_
    refine g_sub [2, 3, 4, 5, 0] rfl ?_
    exact hrec v1 v2 v3 (v4 + (1 : Int32)) m_13 b h hE
  · replace h := it_f c_14 h
    refine g_iload_n C dX8_readReviewer_109 4 rfl rfl ?_
    refine g_iconst (v := (1 : Int32)) C dX8_readReviewer_110 (by decide) ?_
    refine g_iload C dX8_readReviewer_111 0 rfl ?_
    refine g_ishl C dX8_readReviewer_113 ?_
    refine g_ior C dX8_readReviewer_114 ?_
    refine g_istore_n (lv' := [(3, .int (v3 ||| ((1 : Int32) <<< (r_13 &&& 31)))), (5, .int r_13), (0, .ref (oa (gw Γ) 1)), (1, .ref (oa (gw Γ) v1)), (2, .int v2), (4, .int v4)]) C dX8_readReviewer_115 rfl (by decide) rfl ?_
    refine g_iinc (q := 5) (v := v4 + (1 : Int32)) (lv' := [(4, .int (v4 + (1 : Int32))), (3, .int (v3 ||| ((1 : Int32) <<< (r_13 &&& 31)))), (5, .int r_13), (0, .ref (oa (gw Γ) 1)), (1, .ref (oa (gw Γ) v1)), (2, .int v2)]) C dX8_readReviewer_116 rfl rfl (by decide) rfl ?_
    refine g_goto (tgt := 73) C dX8_readReviewer_119 (by decide) ?_
    refine g_sub [3, 4, 5, 1, 0] rfl ?_
    exact hrec v1 v2 (v3 ||| ((1 : Int32) <<< (r_13 &&& 31))) (v4 + (1 : Int32)) m_13 b h hE
set_option maxRecDepth 100000 in
set_option maxHeartbeats 4000000 in
theorem t_X8_readReviewer_73 (N : Nat) (Γ : Gc) (C : Cx Γ cX8_readReviewer 6 RX8 (rmK 7 202 0)) (rc : Nat → Int32 → Int32 → Int32 → Mem → Option (Nat × Int32 × Int32 × Mem)) (b : Nat × Int32 × Int32 × Mem) (hE : Ex_X8_readReviewer_73 Γ 0 b) (hrec : ∀ (v1 : Nat) (v2 : Int32) (v3 : Int32) (v4 : Int32) (m : Mem) (b : Nat × Int32 × Int32 × Mem), rc v1 v2 v3 v4 m = some b → Ex_X8_readReviewer_73 Γ 0 b → G Γ 6 0 m 73 [(0, .ref (oa (gw Γ) 1)), (1, .ref (oa (gw Γ) v1)), (2, .int v2), (3, .int v3), (4, .int v4)] []) (v1 : Nat) (v2 : Int32) (v3 : Int32) (v4 : Int32) (m : Mem) (h : T_X8_readReviewer_73 N rc v1 v2 v3 v4 m = some b) : G Γ 6 0 m 73 [(0, .ref (oa (gw Γ) 1)), (1, .ref (oa (gw Γ) v1)), (2, .int v2), (3, .int v3), (4, .int v4)] [] := by
  unfold T_X8_readReviewer_73 at h
  refine g_iload C dX8_readReviewer_73 4 rfl ?_
  refine g_sipush (v := (800 : Int32)) C dX8_readReviewer_75 (by decide) ?_
  refine g_icmp_ge (tgt := 122) C dX8_readReviewer_78 (by decide) (fun c_17 => ?_) (fun c_17 => ?_)
  · replace h := it_t c_17 h
    obtain rfl := Option.some.inj h
    refine g_sub [1, 2, 3] rfl ?_
    exact hE _ _ _ _ rfl
  · replace h := it_f c_17 h
    refine g_iload C dX8_readReviewer_81 4 rfl ?_
    refine g_if_eq (tgt := 94) C dX8_readReviewer_83 (by decide) (fun c_16 => ?_) (fun c_16 => ?_)
    · replace h := it_t c_16 h
      refine g_sub [0, 1, 2, 3, 4] rfl ?_
      exact t_X8_readReviewer_94 N Γ C rc b hE hrec v1 v2 v3 v4 m h
    · replace h := it_f c_16 h
      refine g_aload_n C dX8_readReviewer_86 0 rfl rfl ?_
      refine g_getI (ci := 8) (j := 4) C dX8_readReviewer_87 rfl (by decide) rfl inT_X8 (by decide) k_238 rfl rfl ?_
      refine g_iconst (v := (3 : Int32)) C dX8_readReviewer_90 (by decide) ?_
      refine g_icmp_ne (tgt := 122) C dX8_readReviewer_91 (by decide) (fun c_15 => ?_) (fun c_15 => ?_)
      · replace h := it_f c_15 h
        obtain rfl := Option.some.inj h
        refine g_sub [1, 2, 3] rfl ?_
        exact hE _ _ _ _ rfl
      · replace h := it_t c_15 h
        refine g_sub [0, 1, 2, 3, 4] rfl ?_
        exact t_X8_readReviewer_94 N Γ C rc b hE hrec v1 v2 v3 v4 m h
theorem lt_X8_readReviewer_73 (N : Nat) (Γ : Gc) (C : Cx Γ cX8_readReviewer 6 RX8 (rmK 7 202 0)) : ∀ (n : Nat) (v1 : Nat) (v2 : Int32) (v3 : Int32) (v4 : Int32) (m : Mem) (b : Nat × Int32 × Int32 × Mem), L_X8_readReviewer_73 N n v1 v2 v3 v4 m = some b → Ex_X8_readReviewer_73 Γ 0 b → G Γ 6 0 m 73 [(0, .ref (oa (gw Γ) 1)), (1, .ref (oa (gw Γ) v1)), (2, .int v2), (3, .int v3), (4, .int v4)] [] := by
  intro n
  induction n with
  | zero =>
    intro v1 v2 v3 v4 m b h
    have h9 : (none : Option (Nat × Int32 × Int32 × Mem)) = some b := h
    cases h9
  | succ n ih => intro v1 v2 v3 v4 m b h hE; exact t_X8_readReviewer_73 N Γ C (L_X8_readReviewer_73 N n) b hE ih v1 v2 v3 v4 m h
set_option maxRecDepth 100000 in
set_option maxHeartbeats 4000000 in
theorem t_X8_readReviewer_122 (N : Nat) (Γ : Gc) (C : Cx Γ cX8_readReviewer 6 RX8 (rmK 7 202 0)) (b : Mem) (hE : EVn Γ 6 cX8_readReviewer b) (v1 : Nat) (v2 : Int32) (v3 : Int32) (m : Mem) (h : B_X8_readReviewer_122 N v1 v2 v3 m = some b) : G Γ 6 0 m 122 [(1, .ref (oa (gw Γ) v1)), (2, .int v2), (3, .int v3)] [] := by
  unfold B_X8_readReviewer_122 at h
  refine g_aload_n C dX8_readReviewer_122 0 rfl rfl ?_
  obtain ⟨g_19, h⟩ := gd_some h
  refine g_getT (b := rt v1 7) (ci := 6) (j := 7) C dX8_readReviewer_123 rfl (by decide) rfl inT_X6 (by decide) k_285 rfl rfl rfl g_19 ?_
  refine g_iload_n C dX8_readReviewer_126 1 rfl rfl ?_
  refine g_iload_n C dX8_readReviewer_127 2 rfl rfl ?_
  obtain ⟨g_20, h⟩ := gd_some h
  obtain ⟨m_21, e_21, h⟩ := wr_some h
  refine g_iast C dX8_readReviewer_128 g_20 (G_m e_21 ?_)
  refine g_aload_n C dX8_readReviewer_129 0 rfl rfl ?_
  refine g_iload_n C dX8_readReviewer_130 1 rfl rfl ?_
  refine g_iconst (v := (1 : Int32)) C dX8_readReviewer_131 (by decide) ?_
  refine g_iadd C dX8_readReviewer_132 ?_
  obtain ⟨m_22, e_22, h⟩ := wr_some h
  refine g_putI (ci := 6) (j := 1) C dX8_readReviewer_133 rfl (by decide) rfl inT_X6 (by decide) k_259 tyX6 tyX6_ok nmX6 rfl rfl g_19 rfl rfl (G_m e_22 ?_)
  obtain rfl := Option.some.inj h
  exact hE 136 _ dX8_readReviewer_136
set_option maxRecDepth 100000 in
set_option maxHeartbeats 4000000 in
theorem t_X8_readReviewer (N : Nat) (Γ : Gc) (C : Cx Γ cX8_readReviewer 6 RX8 (rmK 7 202 0)) (v1 : Nat) (m : Mem) (b : Mem) (h : f_X8_readReviewer N v1 m = some b) (hE : EVn Γ 6 cX8_readReviewer b) : G Γ 6 0 m 0 [(0, .ref (oa (gw Γ) 1)), (1, .ref (oa (gw Γ) v1))] [] := by
  unfold f_X8_readReviewer at h
  refine g_aload_n C dX8_readReviewer_0 1 rfl rfl ?_
  obtain ⟨g_1, h⟩ := gd_some h
  refine g_getI (ci := 6) (j := 1) C dX8_readReviewer_1 rfl (by decide) rfl inT_X6 (by decide) k_259 rfl g_1 ?_
  refine g_istore_n (lv' := [(2, .int (gI m v1 1)), (0, .ref (oa (gw Γ) 1)), (1, .ref (oa (gw Γ) v1))]) C dX8_readReviewer_4 rfl (by decide) rfl ?_
  refine g_iload_n C dX8_readReviewer_5 0 rfl rfl ?_
  refine g_bipush (v := (12 : Int32)) C dX8_readReviewer_6 (by decide) ?_
  refine g_icmp_lt (tgt := 17) C dX8_readReviewer_8 (by decide) (fun c_24 => ?_) (fun c_24 => ?_)
  · replace h := it_t c_24 h
    refine g_aload_n C dX8_readReviewer_17 1 rfl rfl ?_
    obtain ⟨m_2, hk_2, h⟩ := b1_some h
    refine g_vV (As := []) (a := 1) (ci := 8) C dX8_readReviewer_18 mf_X8_nextToken k_249 rfl (by decide) ⟨by decide, by decide⟩ rfl rfl (Nat.le_of_ble_eq_true rfl) (by decide) rfl (c_X8_nextToken N (gl Γ) C.2.2.2.2 (gw Γ)  m _ hk_2) ?_
    refine g_aload_n C dX8_readReviewer_21 2 rfl rfl ?_
    refine g_getT (b := rt v1 4) (ci := 6) (j := 4) C dX8_readReviewer_22 rfl (by decide) rfl inT_X6 (by decide) k_278 rfl rfl rfl g_1 ?_
    refine g_iload_n C dX8_readReviewer_25 0 rfl rfl ?_
    refine g_aload_n C dX8_readReviewer_26 1 rfl rfl ?_
    refine g_iconst (v := (0 : Int32)) C dX8_readReviewer_27 (by decide) ?_
    refine g_aload_n C dX8_readReviewer_28 2 rfl rfl ?_
    refine g_getI (ci := 6) (j := 0) C dX8_readReviewer_29 rfl (by decide) rfl inT_X6 (by decide) k_266 rfl g_1 ?_
    refine g_iconst (v := (1 : Int32)) C dX8_readReviewer_32 (by decide) ?_
    refine g_isub C dX8_readReviewer_33 ?_
    obtain ⟨r_3, m_3, hk_3, h⟩ := b2_some h
    refine g_vI (As := [.int (0 : Int32), .int ((gI m_2 v1 0) - (1 : Int32))]) (a := 1) (ci := 8) C dX8_readReviewer_34 mf_X8_readNumber k_260 rfl (by decide) ⟨by decide, by decide⟩ rfl rfl (Nat.le_of_ble_eq_true rfl) (by decide) rfl (c_X8_readNumber N (gl Γ) C.2.2.2.2 (gw Γ) (0 : Int32) ((gI m_2 v1 0) - (1 : Int32)) m_2 _ hk_3) ?_
    obtain ⟨g_4, h⟩ := gd_some h
    obtain ⟨m_5, e_5, h⟩ := wr_some h
    refine g_iast C dX8_readReviewer_37 g_4 (G_m e_5 ?_)
    refine g_aload_n C dX8_readReviewer_38 2 rfl rfl ?_
    refine g_getT (b := rt v1 5) (ci := 6) (j := 5) C dX8_readReviewer_39 rfl (by decide) rfl inT_X6 (by decide) k_279 rfl rfl rfl g_1 ?_
    refine g_iload_n C dX8_readReviewer_42 0 rfl rfl ?_
    refine g_aload_n C dX8_readReviewer_43 1 rfl rfl ?_
    refine g_iconst (v := (0 : Int32)) C dX8_readReviewer_44 (by decide) ?_
    refine g_bipush (v := (9 : Int32)) C dX8_readReviewer_45 (by decide) ?_
    obtain ⟨r_6, m_6, hk_6, h⟩ := b2_some h
    refine g_vI (As := [.int (0 : Int32), .int (9 : Int32)]) (a := 1) (ci := 8) C dX8_readReviewer_47 mf_X8_readNumber k_260 rfl (by decide) ⟨by decide, by decide⟩ rfl rfl (Nat.le_of_ble_eq_true rfl) (by decide) rfl (c_X8_readNumber N (gl Γ) C.2.2.2.2 (gw Γ) (0 : Int32) (9 : Int32) m_5 _ hk_6) ?_
    obtain ⟨g_7, h⟩ := gd_some h
    obtain ⟨m_8, e_8, h⟩ := wr_some h
    refine g_iast C dX8_readReviewer_50 g_7 (G_m e_8 ?_)
    refine g_aload_n C dX8_readReviewer_51 2 rfl rfl ?_
    refine g_getT (b := rt v1 6) (ci := 6) (j := 6) C dX8_readReviewer_52 rfl (by decide) rfl inT_X6 (by decide) k_280 rfl rfl rfl g_1 ?_
    refine g_iload_n C dX8_readReviewer_55 0 rfl rfl ?_
    refine g_aload_n C dX8_readReviewer_56 1 rfl rfl ?_
    refine g_iconst (v := (1 : Int32)) C dX8_readReviewer_57 (by decide) ?_
    refine g_bipush (v := (10 : Int32)) C dX8_readReviewer_58 (by decide) ?_
    obtain ⟨r_9, m_9, hk_9, h⟩ := b2_some h
    refine g_vI (As := [.int (1 : Int32), .int (10 : Int32)]) (a := 1) (ci := 8) C dX8_readReviewer_60 mf_X8_readNumber k_260 rfl (by decide) ⟨by decide, by decide⟩ rfl rfl (Nat.le_of_ble_eq_true rfl) (by decide) rfl (c_X8_readNumber N (gl Γ) C.2.2.2.2 (gw Γ) (1 : Int32) (10 : Int32) m_8 _ hk_9) ?_
    obtain ⟨g_10, h⟩ := gd_some h
    obtain ⟨m_11, e_11, h⟩ := wr_some h
    refine g_iast C dX8_readReviewer_63 g_10 (G_m e_11 ?_)
    refine g_aload_n C dX8_readReviewer_64 1 rfl rfl ?_
    obtain ⟨m_12, hk_12, h⟩ := b1_some h
    refine g_vV (As := []) (a := 1) (ci := 8) C dX8_readReviewer_65 mf_X8_readTopicsWord k_281 rfl (by decide) ⟨by decide, by decide⟩ rfl rfl (Nat.le_of_ble_eq_true rfl) (by decide) rfl (c_X8_readTopicsWord N (gl Γ) C.2.2.2.2 (gw Γ)  m_11 _ hk_12) ?_
    refine g_iconst (v := (0 : Int32)) C dX8_readReviewer_68 (by decide) ?_
    refine g_istore_n (lv' := [(3, .int (0 : Int32)), (2, .int (gI m v1 1)), (0, .ref (oa (gw Γ) 1)), (1, .ref (oa (gw Γ) v1))]) C dX8_readReviewer_69 rfl (by decide) rfl ?_
    refine g_iconst (v := (0 : Int32)) C dX8_readReviewer_70 (by decide) ?_
    refine g_istore (lv' := [(4, .int (0 : Int32)), (3, .int (0 : Int32)), (2, .int (gI m v1 1)), (0, .ref (oa (gw Γ) 1)), (1, .ref (oa (gw Γ) v1))]) C dX8_readReviewer_71 (by decide) rfl ?_
    obtain ⟨v1_18, v2_18, v3_18, m_18, hx, h⟩ := l4_some h
    refine g_sub [3, 4, 2, 1, 0] rfl ?_
    refine lt_X8_readReviewer_73 N Γ C N v1 (gI m v1 1) (0 : Int32) (0 : Int32) m_12 _ hx ?_
    intro z1 z2 z3 m9 e9
    cases e9
    refine g_sub [0, 1, 2] rfl ?_
    exact t_X8_readReviewer_122 N Γ C b hE v1_18 v2_18 v3_18 m_18 h
  · replace h := it_f c_24 h
    refine g_aload_n C dX8_readReviewer_11 1 rfl rfl ?_
    refine g_iconst (v := (3 : Int32)) C dX8_readReviewer_12 (by decide) ?_
    obtain ⟨m_23, hk_23, h⟩ := b1_some h
    refine g_vV (As := [.int (3 : Int32)]) (a := 1) (ci := 8) C dX8_readReviewer_13 mf_X8_fail k_253 rfl (by decide) ⟨by decide, by decide⟩ rfl rfl (Nat.le_of_ble_eq_true rfl) (by decide) rfl (c_X8_fail N (gl Γ) C.2.2.2.2 (gw Γ) (3 : Int32) m _ hk_23) ?_
    obtain rfl := Option.some.inj h
    exact hE 16 _ dX8_readReviewer_16
theorem c_X8_readReviewer (N : Nat) (l : Launch) (hst : l.stackTraces = false) (w : Om) (v1 : Nat) (m : Mem) (o : Mem) (h : f_X8_readReviewer N v1 m = some o) : KV l yX8_readReviewer cX8_readReviewer 6 none 7 202 w [.ref (oa w 1), .ref (oa w v1)] m o := KV_of hst (by decide +kernel) RX8 rfl (Nat.le_of_ble_eq_true rfl) (fun Γ hw hl C hE => by
  subst hw; subst hl
  exact t_X8_readReviewer N Γ C v1 m o h hE)
set_option maxRecDepth 100000 in
set_option maxHeartbeats 4000000 in
theorem t_X8_readSetting (N : Nat) (Γ : Gc) (C : Cx Γ cX8_readSetting 2 RX8 (rmK 6 182 0)) (v1 : Nat) (m : Mem) (b : Mem) (h : f_X8_readSetting N v1 m = some b) (hE : EVn Γ 2 cX8_readSetting b) : G Γ 2 0 m 0 [(0, .ref (oa (gw Γ) 1)), (1, .ref (oa (gw Γ) v1))] [] := by
  unfold f_X8_readSetting at h
  refine g_aload_n C dX8_readSetting_0 0 rfl rfl ?_
  refine g_ldcS (n := 6) C dX8_readSetting_1 (List.mem_of_getElem? (i := 6) rfl) ?_
  obtain ⟨r_1, m_1, hk_1, h⟩ := b2_some h
  refine g_vI (As := [.ref (oK (gw Γ) 6)]) (a := 1) (ci := 8) C dX8_readSetting_3 mf_X8_isWord k_274 rfl (by decide) ⟨by decide, by decide⟩ rfl rfl (Nat.le_of_ble_eq_true rfl) (by decide) rfl (c_X8_isWord N (gl Γ) C.2.2.2.2 (gw Γ) 6 m _ hk_1) ?_
  refine g_if_eq (tgt := 26) C dX8_readSetting_6 (by decide) (fun c_25 => ?_) (fun c_25 => ?_)
  · replace h := it_t c_25 h
    refine g_aload_n C dX8_readSetting_26 0 rfl rfl ?_
    refine g_ldcS (n := 7) C dX8_readSetting_27 (List.mem_of_getElem? (i := 7) rfl) ?_
    obtain ⟨r_2, m_2, hk_2, h⟩ := b2_some h
    refine g_vI (As := [.ref (oK (gw Γ) 7)]) (a := 1) (ci := 8) C dX8_readSetting_29 mf_X8_isWord k_274 rfl (by decide) ⟨by decide, by decide⟩ rfl rfl (Nat.le_of_ble_eq_true rfl) (by decide) rfl (c_X8_isWord N (gl Γ) C.2.2.2.2 (gw Γ) 7 m_1 _ hk_2) ?_
    refine g_if_eq (tgt := 53) C dX8_readSetting_32 (by decide) (fun c_20 => ?_) (fun c_20 => ?_)
    · replace h := it_t c_20 h
      refine g_aload_n C dX8_readSetting_53 0 rfl rfl ?_
      refine g_ldcS (n := 8) C dX8_readSetting_54 (List.mem_of_getElem? (i := 8) rfl) ?_
      obtain ⟨r_3, m_3, hk_3, h⟩ := b2_some h
      refine g_vI (As := [.ref (oK (gw Γ) 8)]) (a := 1) (ci := 8) C dX8_readSetting_56 mf_X8_isWord k_274 rfl (by decide) ⟨by decide, by decide⟩ rfl rfl (Nat.le_of_ble_eq_true rfl) (by decide) rfl (c_X8_isWord N (gl Γ) C.2.2.2.2 (gw Γ) 8 m_2 _ hk_3) ?_
      refine g_if_eq (tgt := 80) C dX8_readSetting_59 (by decide) (fun c_15 => ?_) (fun c_15 => ?_)
      · replace h := it_t c_15 h
        refine g_aload_n C dX8_readSetting_80 0 rfl rfl ?_
        refine g_ldcS (n := 9) C dX8_readSetting_81 (List.mem_of_getElem? (i := 9) rfl) ?_
        obtain ⟨r_4, m_4, hk_4, h⟩ := b2_some h
        refine g_vI (As := [.ref (oK (gw Γ) 9)]) (a := 1) (ci := 8) C dX8_readSetting_83 mf_X8_isWord k_274 rfl (by decide) ⟨by decide, by decide⟩ rfl rfl (Nat.le_of_ble_eq_true rfl) (by decide) rfl (c_X8_isWord N (gl Γ) C.2.2.2.2 (gw Γ) 9 m_3 _ hk_4) ?_
        refine g_if_eq (tgt := 107) C dX8_readSetting_86 (by decide) (fun c_10 => ?_) (fun c_10 => ?_)
        · replace h := it_t c_10 h
          refine g_aload_n C dX8_readSetting_107 0 rfl rfl ?_
          refine g_iconst (v := (1 : Int32)) C dX8_readSetting_108 (by decide) ?_
          obtain ⟨m_5, hk_5, h⟩ := b1_some h
          refine g_vV (As := [.int (1 : Int32)]) (a := 1) (ci := 8) C dX8_readSetting_109 mf_X8_fail k_253 rfl (by decide) ⟨by decide, by decide⟩ rfl rfl (Nat.le_of_ble_eq_true rfl) (by decide) rfl (c_X8_fail N (gl Γ) C.2.2.2.2 (gw Γ) (1 : Int32) m_4 _ hk_5) ?_
          obtain rfl := Option.some.inj h
          exact hE 112 _ dX8_readSetting_112
        · replace h := it_f c_10 h
          refine g_aload_n C dX8_readSetting_89 0 rfl rfl ?_
          obtain ⟨m_6, hk_6, h⟩ := b1_some h
          refine g_vV (As := []) (a := 1) (ci := 8) C dX8_readSetting_90 mf_X8_nextToken k_249 rfl (by decide) ⟨by decide, by decide⟩ rfl rfl (Nat.le_of_ble_eq_true rfl) (by decide) rfl (c_X8_nextToken N (gl Γ) C.2.2.2.2 (gw Γ)  m_4 _ hk_6) ?_
          refine g_aload_n C dX8_readSetting_93 1 rfl rfl ?_
          refine g_aload_n C dX8_readSetting_94 0 rfl rfl ?_
          refine g_iconst (v := (0 : Int32)) C dX8_readSetting_95 (by decide) ?_
          refine g_bipush (v := (99 : Int32)) C dX8_readSetting_96 (by decide) ?_
          obtain ⟨r_7, m_7, hk_7, h⟩ := b2_some h
          refine g_vI (As := [.int (0 : Int32), .int (99 : Int32)]) (a := 1) (ci := 8) C dX8_readSetting_98 mf_X8_readNumber k_260 rfl (by decide) ⟨by decide, by decide⟩ rfl rfl (Nat.le_of_ble_eq_true rfl) (by decide) rfl (c_X8_readNumber N (gl Γ) C.2.2.2.2 (gw Γ) (0 : Int32) (99 : Int32) m_6 _ hk_7) ?_
          obtain ⟨g_8, h⟩ := gd_some h
          obtain ⟨m_9, e_9, h⟩ := wr_some h
          refine g_putI (ci := 6) (j := 15) C dX8_readSetting_101 rfl (by decide) rfl inT_X6 (by decide) k_286 tyX6 tyX6_ok nmX6 rfl rfl g_8 rfl rfl (G_m e_9 ?_)
          refine g_goto (tgt := 112) C dX8_readSetting_104 (by decide) ?_
          obtain rfl := Option.some.inj h
          exact hE 112 _ dX8_readSetting_112
      · replace h := it_f c_15 h
        refine g_aload_n C dX8_readSetting_62 0 rfl rfl ?_
        obtain ⟨m_11, hk_11, h⟩ := b1_some h
        refine g_vV (As := []) (a := 1) (ci := 8) C dX8_readSetting_63 mf_X8_nextToken k_249 rfl (by decide) ⟨by decide, by decide⟩ rfl rfl (Nat.le_of_ble_eq_true rfl) (by decide) rfl (c_X8_nextToken N (gl Γ) C.2.2.2.2 (gw Γ)  m_3 _ hk_11) ?_
        refine g_aload_n C dX8_readSetting_66 1 rfl rfl ?_
        refine g_aload_n C dX8_readSetting_67 0 rfl rfl ?_
        refine g_iconst (v := (0 : Int32)) C dX8_readSetting_68 (by decide) ?_
        refine g_ldc (v := (100000 : Int32)) C dX8_readSetting_69 k_268 ?_
        obtain ⟨r_12, m_12, hk_12, h⟩ := b2_some h
        refine g_vI (As := [.int (0 : Int32), .int (100000 : Int32)]) (a := 1) (ci := 8) C dX8_readSetting_71 mf_X8_readNumber k_260 rfl (by decide) ⟨by decide, by decide⟩ rfl rfl (Nat.le_of_ble_eq_true rfl) (by decide) rfl (c_X8_readNumber N (gl Γ) C.2.2.2.2 (gw Γ) (0 : Int32) (100000 : Int32) m_11 _ hk_12) ?_
        obtain ⟨g_13, h⟩ := gd_some h
        obtain ⟨m_14, e_14, h⟩ := wr_some h
        refine g_putI (ci := 6) (j := 17) C dX8_readSetting_74 rfl (by decide) rfl inT_X6 (by decide) k_287 tyX6 tyX6_ok nmX6 rfl rfl g_13 rfl rfl (G_m e_14 ?_)
        refine g_goto (tgt := 112) C dX8_readSetting_77 (by decide) ?_
        obtain rfl := Option.some.inj h
        exact hE 112 _ dX8_readSetting_112
    · replace h := it_f c_20 h
      refine g_aload_n C dX8_readSetting_35 0 rfl rfl ?_
      obtain ⟨m_16, hk_16, h⟩ := b1_some h
      refine g_vV (As := []) (a := 1) (ci := 8) C dX8_readSetting_36 mf_X8_nextToken k_249 rfl (by decide) ⟨by decide, by decide⟩ rfl rfl (Nat.le_of_ble_eq_true rfl) (by decide) rfl (c_X8_nextToken N (gl Γ) C.2.2.2.2 (gw Γ)  m_2 _ hk_16) ?_
      refine g_aload_n C dX8_readSetting_39 1 rfl rfl ?_
      refine g_aload_n C dX8_readSetting_40 0 rfl rfl ?_
      refine g_iconst (v := (0 : Int32)) C dX8_readSetting_41 (by decide) ?_
      refine g_ldc (v := (100000 : Int32)) C dX8_readSetting_42 k_268 ?_
      obtain ⟨r_17, m_17, hk_17, h⟩ := b2_some h
      refine g_vI (As := [.int (0 : Int32), .int (100000 : Int32)]) (a := 1) (ci := 8) C dX8_readSetting_44 mf_X8_readNumber k_260 rfl (by decide) ⟨by decide, by decide⟩ rfl rfl (Nat.le_of_ble_eq_true rfl) (by decide) rfl (c_X8_readNumber N (gl Γ) C.2.2.2.2 (gw Γ) (0 : Int32) (100000 : Int32) m_16 _ hk_17) ?_
      obtain ⟨g_18, h⟩ := gd_some h
      obtain ⟨m_19, e_19, h⟩ := wr_some h
      refine g_putI (ci := 6) (j := 16) C dX8_readSetting_47 rfl (by decide) rfl inT_X6 (by decide) k_288 tyX6 tyX6_ok nmX6 rfl rfl g_18 rfl rfl (G_m e_19 ?_)
      refine g_goto (tgt := 112) C dX8_readSetting_50 (by decide) ?_
      obtain rfl := Option.some.inj h
      exact hE 112 _ dX8_readSetting_112
  · replace h := it_f c_25 h
    refine g_aload_n C dX8_readSetting_9 0 rfl rfl ?_
    obtain ⟨m_21, hk_21, h⟩ := b1_some h
    refine g_vV (As := []) (a := 1) (ci := 8) C dX8_readSetting_10 mf_X8_nextToken k_249 rfl (by decide) ⟨by decide, by decide⟩ rfl rfl (Nat.le_of_ble_eq_true rfl) (by decide) rfl (c_X8_nextToken N (gl Γ) C.2.2.2.2 (gw Γ)  m_1 _ hk_21) ?_
    refine g_aload_n C dX8_readSetting_13 1 rfl rfl ?_
    refine g_aload_n C dX8_readSetting_14 0 rfl rfl ?_
    refine g_iconst (v := (1 : Int32)) C dX8_readSetting_15 (by decide) ?_
    refine g_iconst (v := (4 : Int32)) C dX8_readSetting_16 (by decide) ?_
    obtain ⟨r_22, m_22, hk_22, h⟩ := b2_some h
    refine g_vI (As := [.int (1 : Int32), .int (4 : Int32)]) (a := 1) (ci := 8) C dX8_readSetting_17 mf_X8_readNumber k_260 rfl (by decide) ⟨by decide, by decide⟩ rfl rfl (Nat.le_of_ble_eq_true rfl) (by decide) rfl (c_X8_readNumber N (gl Γ) C.2.2.2.2 (gw Γ) (1 : Int32) (4 : Int32) m_21 _ hk_22) ?_
    obtain ⟨g_23, h⟩ := gd_some h
    obtain ⟨m_24, e_24, h⟩ := wr_some h
    refine g_putI (ci := 6) (j := 14) C dX8_readSetting_20 rfl (by decide) rfl inT_X6 (by decide) k_289 tyX6 tyX6_ok nmX6 rfl rfl g_23 rfl rfl (G_m e_24 ?_)
    refine g_goto (tgt := 112) C dX8_readSetting_23 (by decide) ?_
    obtain rfl := Option.some.inj h
    exact hE 112 _ dX8_readSetting_112
theorem c_X8_readSetting (N : Nat) (l : Launch) (hst : l.stackTraces = false) (w : Om) (v1 : Nat) (m : Mem) (o : Mem) (h : f_X8_readSetting N v1 m = some o) : KV l yX8_readSetting cX8_readSetting 2 none 6 182 w [.ref (oa w 1), .ref (oa w v1)] m o := KV_of hst (by decide +kernel) RX8 rfl (Nat.le_of_ble_eq_true rfl) (fun Γ hw hl C hE => by
  subst hw; subst hl
  exact t_X8_readSetting N Γ C v1 m o h hE)
set_option maxRecDepth 100000 in
set_option maxHeartbeats 4000000 in
theorem t_X8_readStatement (N : Nat) (Γ : Gc) (C : Cx Γ cX8_readStatement 2 RX8 (rmK 8 227 0)) (v1 : Nat) (m : Mem) (b : Mem) (h : f_X8_readStatement N v1 m = some b) (hE : EVn Γ 2 cX8_readStatement b) : G Γ 2 0 m 0 [(0, .ref (oa (gw Γ) 1)), (1, .ref (oa (gw Γ) v1))] [] := by
  unfold f_X8_readStatement at h
  refine g_aload_n C dX8_readStatement_0 0 rfl rfl ?_
  refine g_ldcS (n := 0) C dX8_readStatement_1 (List.mem_of_getElem? (i := 0) rfl) ?_
  obtain ⟨r_1, m_1, hk_1, h⟩ := b2_some h
  refine g_vI (As := [.ref (oK (gw Γ) 0)]) (a := 1) (ci := 8) C dX8_readStatement_3 mf_X8_isWord k_274 rfl (by decide) ⟨by decide, by decide⟩ rfl rfl (Nat.le_of_ble_eq_true rfl) (by decide) rfl (c_X8_isWord N (gl Γ) C.2.2.2.2 (gw Γ) 0 m _ hk_1) ?_
  refine g_if_eq (tgt := 17) C dX8_readStatement_6 (by decide) (fun c_13 => ?_) (fun c_13 => ?_)
  · replace h := it_t c_13 h
    refine g_aload_n C dX8_readStatement_17 0 rfl rfl ?_
    refine g_ldcS (n := 1) C dX8_readStatement_18 (List.mem_of_getElem? (i := 1) rfl) ?_
    obtain ⟨r_2, m_2, hk_2, h⟩ := b2_some h
    refine g_vI (As := [.ref (oK (gw Γ) 1)]) (a := 1) (ci := 8) C dX8_readStatement_20 mf_X8_isWord k_274 rfl (by decide) ⟨by decide, by decide⟩ rfl rfl (Nat.le_of_ble_eq_true rfl) (by decide) rfl (c_X8_isWord N (gl Γ) C.2.2.2.2 (gw Γ) 1 m_1 _ hk_2) ?_
    refine g_if_eq (tgt := 34) C dX8_readStatement_23 (by decide) (fun c_11 => ?_) (fun c_11 => ?_)
    · replace h := it_t c_11 h
      refine g_aload_n C dX8_readStatement_34 0 rfl rfl ?_
      refine g_ldcS (n := 3) C dX8_readStatement_35 (List.mem_of_getElem? (i := 3) rfl) ?_
      obtain ⟨r_3, m_3, hk_3, h⟩ := b2_some h
      refine g_vI (As := [.ref (oK (gw Γ) 3)]) (a := 1) (ci := 8) C dX8_readStatement_37 mf_X8_isWord k_274 rfl (by decide) ⟨by decide, by decide⟩ rfl rfl (Nat.le_of_ble_eq_true rfl) (by decide) rfl (c_X8_isWord N (gl Γ) C.2.2.2.2 (gw Γ) 3 m_2 _ hk_3) ?_
      refine g_if_eq (tgt := 51) C dX8_readStatement_40 (by decide) (fun c_9 => ?_) (fun c_9 => ?_)
      · replace h := it_t c_9 h
        refine g_aload_n C dX8_readStatement_51 0 rfl rfl ?_
        refine g_ldcS (n := 5) C dX8_readStatement_52 (List.mem_of_getElem? (i := 5) rfl) ?_
        obtain ⟨r_4, m_4, hk_4, h⟩ := b2_some h
        refine g_vI (As := [.ref (oK (gw Γ) 5)]) (a := 1) (ci := 8) C dX8_readStatement_54 mf_X8_isWord k_274 rfl (by decide) ⟨by decide, by decide⟩ rfl rfl (Nat.le_of_ble_eq_true rfl) (by decide) rfl (c_X8_isWord N (gl Γ) C.2.2.2.2 (gw Γ) 5 m_3 _ hk_4) ?_
        refine g_if_eq (tgt := 68) C dX8_readStatement_57 (by decide) (fun c_7 => ?_) (fun c_7 => ?_)
        · replace h := it_t c_7 h
          refine g_aload_n C dX8_readStatement_68 0 rfl rfl ?_
          refine g_aload_n C dX8_readStatement_69 1 rfl rfl ?_
          obtain ⟨m_5, hk_5, h⟩ := b1_some h
          refine g_vV (As := [.ref (oa (gw Γ) v1)]) (a := 1) (ci := 8) C dX8_readStatement_70 mf_X8_readSetting k_290 rfl (by decide) ⟨by decide, by decide⟩ rfl rfl (Nat.le_of_ble_eq_true rfl) (by decide) rfl (c_X8_readSetting N (gl Γ) C.2.2.2.2 (gw Γ) v1 m_4 _ hk_5) ?_
          obtain rfl := Option.some.inj h
          exact hE 73 _ dX8_readStatement_73
        · replace h := it_f c_7 h
          refine g_aload_n C dX8_readStatement_60 0 rfl rfl ?_
          refine g_aload_n C dX8_readStatement_61 1 rfl rfl ?_
          obtain ⟨m_6, hk_6, h⟩ := b1_some h
          refine g_vV (As := [.ref (oa (gw Γ) v1)]) (a := 1) (ci := 8) C dX8_readStatement_62 mf_X8_readConflict k_294 rfl (by decide) ⟨by decide, by decide⟩ rfl rfl (Nat.le_of_ble_eq_true rfl) (by decide) rfl (c_X8_readConflict N (gl Γ) C.2.2.2.2 (gw Γ) v1 m_4 _ hk_6) ?_
          refine g_goto (tgt := 73) C dX8_readStatement_65 (by decide) ?_
          obtain rfl := Option.some.inj h
          exact hE 73 _ dX8_readStatement_73
      · replace h := it_f c_9 h
        refine g_aload_n C dX8_readStatement_43 0 rfl rfl ?_
        refine g_aload_n C dX8_readStatement_44 1 rfl rfl ?_
        obtain ⟨m_8, hk_8, h⟩ := b1_some h
        refine g_vV (As := [.ref (oa (gw Γ) v1)]) (a := 1) (ci := 8) C dX8_readStatement_45 mf_X8_readProposal k_298 rfl (by decide) ⟨by decide, by decide⟩ rfl rfl (Nat.le_of_ble_eq_true rfl) (by decide) rfl (c_X8_readProposal N (gl Γ) C.2.2.2.2 (gw Γ) v1 m_3 _ hk_8) ?_
        refine g_goto (tgt := 73) C dX8_readStatement_48 (by decide) ?_
        obtain rfl := Option.some.inj h
        exact hE 73 _ dX8_readStatement_73
    · replace h := it_f c_11 h
      refine g_aload_n C dX8_readStatement_26 0 rfl rfl ?_
      refine g_aload_n C dX8_readStatement_27 1 rfl rfl ?_
      obtain ⟨m_10, hk_10, h⟩ := b1_some h
      refine g_vV (As := [.ref (oa (gw Γ) v1)]) (a := 1) (ci := 8) C dX8_readStatement_28 mf_X8_readReviewer k_302 rfl (by decide) ⟨by decide, by decide⟩ rfl rfl (Nat.le_of_ble_eq_true rfl) (by decide) rfl (c_X8_readReviewer N (gl Γ) C.2.2.2.2 (gw Γ) v1 m_2 _ hk_10) ?_
      refine g_goto (tgt := 73) C dX8_readStatement_31 (by decide) ?_
      obtain rfl := Option.some.inj h
      exact hE 73 _ dX8_readStatement_73
  · replace h := it_f c_13 h
    refine g_aload_n C dX8_readStatement_9 0 rfl rfl ?_
    refine g_aload_n C dX8_readStatement_10 1 rfl rfl ?_
    obtain ⟨m_12, hk_12, h⟩ := b1_some h
    refine g_vV (As := [.ref (oa (gw Γ) v1)]) (a := 1) (ci := 8) C dX8_readStatement_11 mf_X8_readPanel k_306 rfl (by decide) ⟨by decide, by decide⟩ rfl rfl (Nat.le_of_ble_eq_true rfl) (by decide) rfl (c_X8_readPanel N (gl Γ) C.2.2.2.2 (gw Γ) v1 m_1 _ hk_12) ?_
    refine g_goto (tgt := 73) C dX8_readStatement_14 (by decide) ?_
    obtain rfl := Option.some.inj h
    exact hE 73 _ dX8_readStatement_73
theorem c_X8_readStatement (N : Nat) (l : Launch) (hst : l.stackTraces = false) (w : Om) (v1 : Nat) (m : Mem) (o : Mem) (h : f_X8_readStatement N v1 m = some o) : KV l yX8_readStatement cX8_readStatement 2 none 8 227 w [.ref (oa w 1), .ref (oa w v1)] m o := KV_of hst (by decide +kernel) RX8 rfl (Nat.le_of_ble_eq_true rfl) (fun Γ hw hl C hE => by
  subst hw; subst hl
  exact t_X8_readStatement N Γ C v1 m o h hE)
def Ex_X8_read_25 (Γ : Gc) (cs : Nat) (b : Mem) : Prop := (∀  (m' : Mem), b = m' → G Γ 3 cs m' 61 [(0, .ref (oa (gw Γ) 1))] [])
set_option maxRecDepth 100000 in
set_option maxHeartbeats 4000000 in
theorem t_X8_read_25 (N : Nat) (Γ : Gc) (C : Cx Γ cX8_read 3 RX8 (rmK 9 248 0)) (rc : Nat → Int32 → Mem → Option (Mem)) (b : Mem) (hE : Ex_X8_read_25 Γ 0 b) (hrec : ∀ (v1 : Nat) (v2 : Int32) (m : Mem) (b : Mem), rc v1 v2 m = some b → Ex_X8_read_25 Γ 0 b → G Γ 3 0 m 25 [(0, .ref (oa (gw Γ) 1)), (1, .ref (oa (gw Γ) v1)), (2, .int v2)] []) (v1 : Nat) (v2 : Int32) (m : Mem) (h : T_X8_read_25 N rc v1 v2 m = some b) : G Γ 3 0 m 25 [(0, .ref (oa (gw Γ) 1)), (1, .ref (oa (gw Γ) v1)), (2, .int v2)] [] := by
  unfold T_X8_read_25 at h
  refine g_iload_n C dX8_read_25 2 rfl rfl ?_
  refine g_sipush (v := (800 : Int32)) C dX8_read_26 (by decide) ?_
  refine g_icmp_ge (tgt := 61) C dX8_read_29 (by decide) (fun c_11 => ?_) (fun c_11 => ?_)
  · replace h := it_t c_11 h
    obtain rfl := Option.some.inj h
    refine g_sub [0] rfl ?_
    exact hE _ rfl
  · replace h := it_f c_11 h
    refine g_aload_n C dX8_read_32 0 rfl rfl ?_
    refine g_getI (ci := 8) (j := 4) C dX8_read_33 rfl (by decide) rfl inT_X8 (by decide) k_238 rfl rfl ?_
    refine g_if_eq (tgt := 61) C dX8_read_36 (by decide) (fun c_10 => ?_) (fun c_10 => ?_)
    · replace h := it_t c_10 h
      obtain rfl := Option.some.inj h
      refine g_sub [0] rfl ?_
      exact hE _ rfl
    · replace h := it_f c_10 h
      refine g_aload_n C dX8_read_39 0 rfl rfl ?_
      refine g_getI (ci := 8) (j := 2) C dX8_read_40 rfl (by decide) rfl inT_X8 (by decide) k_247 rfl rfl ?_
      refine g_if_ne (tgt := 61) C dX8_read_43 (by decide) (fun c_9 => ?_) (fun c_9 => ?_)
      · replace h := it_f c_9 h
        obtain rfl := Option.some.inj h
        refine g_sub [0] rfl ?_
        exact hE _ rfl
      · replace h := it_t c_9 h
        refine g_aload_n C dX8_read_46 0 rfl rfl ?_
        refine g_aload_n C dX8_read_47 1 rfl rfl ?_
        obtain ⟨m_7, hk_7, h⟩ := b1_some h
        refine g_vV (As := [.ref (oa (gw Γ) v1)]) (a := 1) (ci := 8) C dX8_read_48 mf_X8_readStatement k_314 rfl (by decide) ⟨by decide, by decide⟩ rfl rfl (Nat.le_of_ble_eq_true rfl) (by decide) rfl (c_X8_readStatement N (gl Γ) C.2.2.2.2 (gw Γ) v1 m _ hk_7) ?_
        refine g_aload_n C dX8_read_51 0 rfl rfl ?_
        obtain ⟨m_8, hk_8, h⟩ := b1_some h
        refine g_vV (As := []) (a := 1) (ci := 8) C dX8_read_52 mf_X8_readSemicolon k_318 rfl (by decide) ⟨by decide, by decide⟩ rfl rfl (Nat.le_of_ble_eq_true rfl) (by decide) rfl (c_X8_readSemicolon N (gl Γ) C.2.2.2.2 (gw Γ)  m_7 _ hk_8) ?_
        refine g_iinc (q := 2) (v := v2 + (1 : Int32)) (lv' := [(2, .int (v2 + (1 : Int32))), (0, .ref (oa (gw Γ) 1)), (1, .ref (oa (gw Γ) v1))]) C dX8_read_55 rfl rfl (by decide) rfl ?_
        refine g_goto (tgt := 25) C dX8_read_58 (by decide) ?_
        refine g_sub [1, 2, 0] rfl ?_
        exact hrec v1 (v2 + (1 : Int32)) m_8 b h hE
theorem lt_X8_read_25 (N : Nat) (Γ : Gc) (C : Cx Γ cX8_read 3 RX8 (rmK 9 248 0)) : ∀ (n : Nat) (v1 : Nat) (v2 : Int32) (m : Mem) (b : Mem), L_X8_read_25 N n v1 v2 m = some b → Ex_X8_read_25 Γ 0 b → G Γ 3 0 m 25 [(0, .ref (oa (gw Γ) 1)), (1, .ref (oa (gw Γ) v1)), (2, .int v2)] [] := by
  intro n
  induction n with
  | zero =>
    intro v1 v2 m b h
    have h9 : (none : Option (Mem)) = some b := h
    cases h9
  | succ n ih => intro v1 v2 m b h hE; exact t_X8_read_25 N Γ C (L_X8_read_25 N n) b hE ih v1 v2 m h
set_option maxRecDepth 100000 in
set_option maxHeartbeats 4000000 in
theorem t_X8_read_61 (N : Nat) (Γ : Gc) (C : Cx Γ cX8_read 3 RX8 (rmK 9 248 0)) (b : Int32 × Mem) (hE : EZn Γ 3 cX8_read b)  (m : Mem) (h : B_X8_read_61 N  m = some b) : G Γ 3 0 m 61 [(0, .ref (oa (gw Γ) 1))] [] := by
  unfold B_X8_read_61 at h
  refine g_aload_n C dX8_read_61 0 rfl rfl ?_
  refine g_getI (ci := 8) (j := 2) C dX8_read_62 rfl (by decide) rfl inT_X8 (by decide) k_247 rfl rfl ?_
  refine g_if_ne (tgt := 72) C dX8_read_65 (by decide) (fun c_13 => ?_) (fun c_13 => ?_)
  · replace h := it_f c_13 h
    refine g_iconst (v := (0 : Int32)) C dX8_read_72 (by decide) ?_
    obtain rfl := Option.some.inj h
    exact hE 73 _ (show isB (0 : Int32) = true by decide) dX8_read_73
  · replace h := it_t c_13 h
    refine g_iconst (v := (1 : Int32)) C dX8_read_68 (by decide) ?_
    refine g_goto (tgt := 73) C dX8_read_69 (by decide) ?_
    obtain rfl := Option.some.inj h
    exact hE 73 _ (show isB (1 : Int32) = true by decide) dX8_read_73
set_option maxRecDepth 100000 in
set_option maxHeartbeats 4000000 in
theorem t_X8_read (N : Nat) (Γ : Gc) (C : Cx Γ cX8_read 3 RX8 (rmK 9 248 0)) (v1 : Nat) (m : Mem) (b : Int32 × Mem) (h : f_X8_read N v1 m = some b) (hE : EZn Γ 3 cX8_read b) : G Γ 3 0 m 0 [(0, .ref (oa (gw Γ) 1)), (1, .ref (oa (gw Γ) v1))] [] := by
  unfold f_X8_read at h
  refine g_aload_n C dX8_read_0 1 rfl rfl ?_
  obtain ⟨g_1, h⟩ := gd_some h
  obtain ⟨m_2, hk_2, h⟩ := b1_some h
  refine g_vV (As := []) (a := v1) (ci := 6) C dX8_read_1 mf_X6_clear k_310 rfl (by decide) ⟨by decide, by decide⟩ rfl rfl (Nat.le_of_ble_eq_true rfl) (by decide) g_1 (c_X6_clear N (gl Γ) C.2.2.2.2 (gw Γ) v1 m _ hk_2) ?_
  refine g_aload_n C dX8_read_4 0 rfl rfl ?_
  refine g_iconst (v := (0 : Int32)) C dX8_read_5 (by decide) ?_
  obtain ⟨m_3, e_3, h⟩ := wr_some h
  refine g_putI (ci := 8) (j := 2) C dX8_read_6 rfl (by decide) rfl inT_X8 (by decide) k_247 tyX8 tyX8_ok nmX8 rfl rfl rfl rfl rfl (G_m e_3 ?_)
  refine g_aload_n C dX8_read_9 0 rfl rfl ?_
  refine g_iconst (v := (-1 : Int32)) C dX8_read_10 (by decide) ?_
  obtain ⟨m_4, e_4, h⟩ := wr_some h
  refine g_putI (ci := 8) (j := 3) C dX8_read_11 rfl (by decide) rfl inT_X8 (by decide) k_248 tyX8 tyX8_ok nmX8 rfl rfl rfl rfl rfl (G_m e_4 ?_)
  refine g_aload_n C dX8_read_14 0 rfl rfl ?_
  refine g_iconst (v := (0 : Int32)) C dX8_read_15 (by decide) ?_
  obtain ⟨m_5, e_5, h⟩ := wr_some h
  refine g_putI (ci := 8) (j := 6) C dX8_read_16 rfl (by decide) rfl inT_X8 (by decide) k_235 tyX8 tyX8_ok nmX8 rfl rfl rfl rfl rfl (G_m e_5 ?_)
  refine g_aload_n C dX8_read_19 0 rfl rfl ?_
  obtain ⟨m_6, hk_6, h⟩ := b1_some h
  refine g_vV (As := []) (a := 1) (ci := 8) C dX8_read_20 mf_X8_nextToken k_249 rfl (by decide) ⟨by decide, by decide⟩ rfl rfl (Nat.le_of_ble_eq_true rfl) (by decide) rfl (c_X8_nextToken N (gl Γ) C.2.2.2.2 (gw Γ)  m_5 _ hk_6) ?_
  refine g_iconst (v := (0 : Int32)) C dX8_read_23 (by decide) ?_
  refine g_istore_n (lv' := [(2, .int (0 : Int32)), (0, .ref (oa (gw Γ) 1)), (1, .ref (oa (gw Γ) v1))]) C dX8_read_24 rfl (by decide) rfl ?_
  obtain ⟨m_12, hx, h⟩ := l1_some h
  refine g_sub [1, 2, 0] rfl ?_
  refine lt_X8_read_25 N Γ C N v1 (0 : Int32) m_6 _ hx ?_
  intro  m9 e9
  cases e9
  refine g_sub [0] rfl ?_
  exact t_X8_read_61 N Γ C b hE  m_12 h
theorem c_X8_read (N : Nat) (l : Launch) (hst : l.stackTraces = false) (w : Om) (v1 : Nat) (m : Mem) (o : Int32 × Mem) (h : f_X8_read N v1 m = some o) : KI l yX8_read cX8_read 3 (some .boolean) 9 248 w [.ref (oa w 1), .ref (oa w v1)] m o.1 o.2 := KZ_of hst (by decide +kernel) RX8 rfl (Nat.le_of_ble_eq_true rfl) (fun Γ hw hl C hE => by
  subst hw; subst hl
  exact t_X8_read N Γ C v1 m o h hE)
set_option maxRecDepth 100000 in
set_option maxHeartbeats 4000000 in
theorem t_X9_append (N : Nat) (Γ : Gc) (C : Cx Γ cX9_append 6 RX9 (rmK 6 90 1)) (v1 : Int32) (v2 : Int32) (v3 : Int32) (v4 : Int32) (v5 : Int32) (m : Mem) (b : (Int32 ⊕ Nat) × Mem) (h : f_X9_append N v1 v2 v3 v4 v5 m = some b) (hE : EI Γ 6 cX9_append 1 b) : G Γ 6 0 m 0 [(0, .ref (oa (gw Γ) 0)), (1, .int v1), (2, .int v2), (3, .int v3), (4, .int v4), (5, .int v5)] [] := by
  unfold f_X9_append at h
  refine g_aload_n C dX9_append_0 0 rfl rfl ?_
  refine g_getT (b := 1) (ci := 9) (j := 0) C dX9_append_1 rfl (by decide) rfl inT_X9 (by decide) k_322 rfl rfl rfl rfl ?_
  refine g_getI (ci := 8) (j := 1) C dX9_append_4 rfl (by decide) rfl inT_X8 (by decide) k_323 rfl rfl ?_
  refine g_sipush (v := (780 : Int32)) C dX9_append_7 (by decide) ?_
  refine g_icmp_le (tgt := 23) C dX9_append_10 (by decide) (fun c_6 => ?_) (fun c_6 => ?_)
  · replace h := it_t c_6 h
    refine g_aload_n C dX9_append_23 0 rfl rfl ?_
    refine g_getT (b := 1) (ci := 9) (j := 0) C dX9_append_24 rfl (by decide) rfl inT_X9 (by decide) k_322 rfl rfl rfl rfl ?_
    refine g_iload_n C dX9_append_27 1 rfl rfl ?_
    obtain ⟨m_1, hk_1, h⟩ := b1_some h
    refine g_vV (As := [.int v1]) (a := 1) (ci := 8) C dX9_append_28 mf_X8_put k_324 rfl (by decide) ⟨by decide, by decide⟩ rfl rfl (Nat.le_of_ble_eq_true rfl) (by decide) rfl (c_X8_put N (gl Γ) C.2.2.2.2 (gw Γ) v1 m _ hk_1) ?_
    refine g_aload_n C dX9_append_31 0 rfl rfl ?_
    refine g_getT (b := 1) (ci := 9) (j := 0) C dX9_append_32 rfl (by decide) rfl inT_X9 (by decide) k_322 rfl rfl rfl rfl ?_
    refine g_iload_n C dX9_append_35 2 rfl rfl ?_
    obtain ⟨m_2, hk_2, h⟩ := b1_some h
    refine g_vV (As := [.int v2]) (a := 1) (ci := 8) C dX9_append_36 mf_X8_put k_324 rfl (by decide) ⟨by decide, by decide⟩ rfl rfl (Nat.le_of_ble_eq_true rfl) (by decide) rfl (c_X8_put N (gl Γ) C.2.2.2.2 (gw Γ) v2 m_1 _ hk_2) ?_
    refine g_aload_n C dX9_append_39 0 rfl rfl ?_
    refine g_getT (b := 1) (ci := 9) (j := 0) C dX9_append_40 rfl (by decide) rfl inT_X9 (by decide) k_322 rfl rfl rfl rfl ?_
    refine g_iload_n C dX9_append_43 3 rfl rfl ?_
    obtain ⟨m_3, hk_3, h⟩ := b1_some h
    refine g_vV (As := [.int v3]) (a := 1) (ci := 8) C dX9_append_44 mf_X8_put k_324 rfl (by decide) ⟨by decide, by decide⟩ rfl rfl (Nat.le_of_ble_eq_true rfl) (by decide) rfl (c_X8_put N (gl Γ) C.2.2.2.2 (gw Γ) v3 m_2 _ hk_3) ?_
    refine g_aload_n C dX9_append_47 0 rfl rfl ?_
    refine g_getT (b := 1) (ci := 9) (j := 0) C dX9_append_48 rfl (by decide) rfl inT_X9 (by decide) k_322 rfl rfl rfl rfl ?_
    refine g_iload C dX9_append_51 4 rfl ?_
    obtain ⟨m_4, hk_4, h⟩ := b1_some h
    refine g_vV (As := [.int v4]) (a := 1) (ci := 8) C dX9_append_53 mf_X8_put k_324 rfl (by decide) ⟨by decide, by decide⟩ rfl rfl (Nat.le_of_ble_eq_true rfl) (by decide) rfl (c_X8_put N (gl Γ) C.2.2.2.2 (gw Γ) v4 m_3 _ hk_4) ?_
    refine g_aload_n C dX9_append_56 0 rfl rfl ?_
    refine g_getT (b := 1) (ci := 9) (j := 0) C dX9_append_57 rfl (by decide) rfl inT_X9 (by decide) k_322 rfl rfl rfl rfl ?_
    refine g_iload C dX9_append_60 5 rfl ?_
    obtain ⟨m_5, hk_5, h⟩ := b1_some h
    refine g_vV (As := [.int v5]) (a := 1) (ci := 8) C dX9_append_62 mf_X8_put k_324 rfl (by decide) ⟨by decide, by decide⟩ rfl rfl (Nat.le_of_ble_eq_true rfl) (by decide) rfl (c_X8_put N (gl Γ) C.2.2.2.2 (gw Γ) v5 m_4 _ hk_5) ?_
    refine g_aload_n C dX9_append_65 0 rfl rfl ?_
    refine g_getT (b := 1) (ci := 9) (j := 0) C dX9_append_66 rfl (by decide) rfl inT_X9 (by decide) k_322 rfl rfl rfl rfl ?_
    refine g_getI (ci := 8) (j := 1) C dX9_append_69 rfl (by decide) rfl inT_X8 (by decide) k_323 rfl rfl ?_
    obtain rfl := Option.some.inj h
    exact (hE).1 _ rfl 0 (by decide) 72 _ dX9_append_72
  · replace h := it_f c_6 h
    obtain rfl := Option.some.inj h
    exact g_throw (n := 10) C tf_0 dX9_append_13 dX9_append_16 dX9_append_17 dX9_append_19 dX9_append_22 (List.mem_of_getElem? (i := 10) rfl) (by decide) (Nat.le_of_ble_eq_true rfl) (by decide) ((hE).2 0 rfl)
theorem c_X9_append (N : Nat) (l : Launch) (hst : l.stackTraces = false) (w : Om) (v1 : Int32) (v2 : Int32) (v3 : Int32) (v4 : Int32) (v5 : Int32) (m : Mem) (o : (Int32 ⊕ Nat) × Mem) (h : f_X9_append N v1 v2 v3 v4 v5 m = some o) : XI l yX9_append cX9_append 6 (some .int) 6 90 1 w [.ref (oa w 0), .int v1, .int v2, .int v3, .int v4, .int v5] m o := XI_of hst (by decide +kernel) RX9 rfl (Nat.le_of_ble_eq_true rfl) (fun Γ hw hl C hE => by
  subst hw; subst hl
  exact t_X9_append N Γ C v1 v2 v3 v4 v5 m o h hE)
set_option maxRecDepth 100000 in
set_option maxHeartbeats 4000000 in
theorem t_X9_truncate_15 (N : Nat) (Γ : Gc) (C : Cx Γ cX9_truncate 2 RX9 (rmK 6 90 1)) (b : (Int32 ⊕ Nat) × Mem) (hE : EI Γ 2 cX9_truncate 1 b)  (m : Mem) (h : B_X9_truncate_15 N  m = some b) : G Γ 2 0 m 15 [] [] := by
  unfold B_X9_truncate_15 at h
  obtain rfl := Option.some.inj h
  exact g_throw (n := 11) C tf_2 dX9_truncate_15 dX9_truncate_18 dX9_truncate_19 dX9_truncate_21 dX9_truncate_24 (List.mem_of_getElem? (i := 11) rfl) (by decide) (Nat.le_of_ble_eq_true rfl) (by decide) ((hE).2 2 rfl)
set_option maxRecDepth 100000 in
set_option maxHeartbeats 4000000 in
theorem t_X9_truncate (N : Nat) (Γ : Gc) (C : Cx Γ cX9_truncate 2 RX9 (rmK 6 90 1)) (v1 : Int32) (m : Mem) (b : (Int32 ⊕ Nat) × Mem) (h : f_X9_truncate N v1 m = some b) (hE : EI Γ 2 cX9_truncate 1 b) : G Γ 2 0 m 0 [(0, .ref (oa (gw Γ) 0)), (1, .int v1)] [] := by
  unfold f_X9_truncate at h
  refine g_iload_n C dX9_truncate_0 1 rfl rfl ?_
  refine g_if_lt (tgt := 15) C dX9_truncate_1 (by decide) (fun c_3 => ?_) (fun c_3 => ?_)
  · replace h := it_t c_3 h
    refine g_sub [] rfl ?_
    exact t_X9_truncate_15 N Γ C b hE  m h
  · replace h := it_f c_3 h
    refine g_iload_n C dX9_truncate_4 1 rfl rfl ?_
    refine g_aload_n C dX9_truncate_5 0 rfl rfl ?_
    refine g_getT (b := 1) (ci := 9) (j := 0) C dX9_truncate_6 rfl (by decide) rfl inT_X9 (by decide) k_322 rfl rfl rfl rfl ?_
    refine g_getI (ci := 8) (j := 1) C dX9_truncate_9 rfl (by decide) rfl inT_X8 (by decide) k_323 rfl rfl ?_
    refine g_icmp_le (tgt := 25) C dX9_truncate_12 (by decide) (fun c_2 => ?_) (fun c_2 => ?_)
    · replace h := it_t c_2 h
      refine g_aload_n C dX9_truncate_25 0 rfl rfl ?_
      refine g_getT (b := 1) (ci := 9) (j := 0) C dX9_truncate_26 rfl (by decide) rfl inT_X9 (by decide) k_322 rfl rfl rfl rfl ?_
      refine g_iload_n C dX9_truncate_29 1 rfl rfl ?_
      obtain ⟨m_1, e_1, h⟩ := wr_some h
      refine g_putI (ci := 8) (j := 1) C dX9_truncate_30 rfl (by decide) rfl inT_X8 (by decide) k_323 tyX8 tyX8_ok nmX8 rfl rfl rfl rfl rfl (G_m e_1 ?_)
      refine g_iload_n C dX9_truncate_33 1 rfl rfl ?_
      obtain rfl := Option.some.inj h
      exact (hE).1 _ rfl 0 (by decide) 34 _ dX9_truncate_34
    · replace h := it_f c_2 h
      refine g_sub [] rfl ?_
      exact t_X9_truncate_15 N Γ C b hE  m h
theorem c_X9_truncate (N : Nat) (l : Launch) (hst : l.stackTraces = false) (w : Om) (v1 : Int32) (m : Mem) (o : (Int32 ⊕ Nat) × Mem) (h : f_X9_truncate N v1 m = some o) : XI l yX9_truncate cX9_truncate 2 (some .int) 6 90 1 w [.ref (oa w 0), .int v1] m o := XI_of hst (by decide +kernel) RX9 rfl (Nat.le_of_ble_eq_true rfl) (fun Γ hw hl C hE => by
  subst hw; subst hl
  exact t_X9_truncate N Γ C v1 m o h hE)
set_option maxRecDepth 100000 in
set_option maxHeartbeats 4000000 in
theorem t_X9_load (N : Nat) (Γ : Gc) (C : Cx Γ cX9_load 3 RX9 (rmK 10 270 1))  (m : Mem) (b : (Int32 ⊕ Nat) × Mem) (h : f_X9_load N  m = some b) (hE : EI Γ 3 cX9_load 1 b) : G Γ 3 0 m 0 [(0, .ref (oa (gw Γ) 0))] [] := by
  unfold f_X9_load at h
  refine g_aload_n C dX9_load_0 0 rfl rfl ?_
  refine g_getT (b := 1) (ci := 9) (j := 0) C dX9_load_1 rfl (by decide) rfl inT_X9 (by decide) k_322 rfl rfl rfl rfl ?_
  refine g_aload_n C dX9_load_4 0 rfl rfl ?_
  refine g_getR (ci := 9) (j := 8) C dX9_load_5 rfl (by decide) rfl inT_X9 (by decide) k_328 rfl rfl rfl ?_
  obtain ⟨r_1, m_1, hk_1, h⟩ := b2_some h
  refine g_vI (As := [.ref (oa (gw Γ) (gR m 0 8))]) (a := 1) (ci := 8) C dX9_load_8 mf_X8_read k_329 rfl (by decide) ⟨by decide, by decide⟩ rfl rfl (Nat.le_of_ble_eq_true rfl) (by decide) rfl (c_X8_read N (gl Γ) C.2.2.2.2 (gw Γ) (gR m 0 8) m _ hk_1) ?_
  refine g_istore_n (lv' := [(1, .int r_1), (0, .ref (oa (gw Γ) 0))]) C dX9_load_11 rfl (by decide) rfl ?_
  refine g_aload_n C dX9_load_12 1 rfl rfl ?_
  refine g_getT (b := 1) (ci := 9) (j := 0) C dX9_load_13 rfl (by decide) rfl inT_X9 (by decide) k_322 rfl rfl rfl rfl ?_
  refine g_iconst (v := (0 : Int32)) C dX9_load_16 (by decide) ?_
  obtain ⟨m_2, e_2, h⟩ := wr_some h
  refine g_putI (ci := 8) (j := 1) C dX9_load_17 rfl (by decide) rfl inT_X8 (by decide) k_323 tyX8 tyX8_ok nmX8 rfl rfl rfl rfl rfl (G_m e_2 ?_)
  refine g_iload_n C dX9_load_20 0 rfl rfl ?_
  refine g_if_ne (tgt := 34) C dX9_load_21 (by decide) (fun c_8 => ?_) (fun c_8 => ?_)
  · replace h := it_f c_8 h
    refine g_aload_n C dX9_load_34 1 rfl rfl ?_
    refine g_getR (ci := 9) (j := 8) C dX9_load_35 rfl (by decide) rfl inT_X9 (by decide) k_328 rfl rfl rfl ?_
    refine g_astore_n (lv' := [(2, .ref (oa (gw Γ) (gR m_2 0 8))), (1, .int r_1), (0, .ref (oa (gw Γ) 0))]) C dX9_load_38 rfl (by decide) rfl ?_
    refine g_aload_n C dX9_load_39 2 rfl rfl ?_
    refine g_aload_n C dX9_load_40 2 rfl rfl ?_
    refine g_getR (ci := 9) (j := 7) C dX9_load_41 rfl (by decide) rfl inT_X9 (by decide) k_333 rfl rfl rfl ?_
    obtain ⟨m_3, e_3, h⟩ := wr_some h
    refine g_putR (ci := 9) (j := 8) C dX9_load_44 rfl (by decide) rfl inT_X9 (by decide) k_328 tyX9 tyX9_ok nmX9 rfl rfl rfl rfl rfl rfl (G_m e_3 ?_)
    refine g_aload_n C dX9_load_47 2 rfl rfl ?_
    refine g_aload_n C dX9_load_48 0 rfl rfl ?_
    obtain ⟨m_4, e_4, h⟩ := wr_some h
    refine g_putR (ci := 9) (j := 7) C dX9_load_49 rfl (by decide) rfl inT_X9 (by decide) k_333 tyX9 tyX9_ok nmX9 rfl rfl rfl rfl rfl rfl (G_m e_4 ?_)
    refine g_aload_n C dX9_load_52 2 rfl rfl ?_
    refine g_getT (b := 3) (ci := 9) (j := 1) C dX9_load_53 rfl (by decide) rfl inT_X9 (by decide) k_334 rfl rfl rfl rfl ?_
    refine g_aload_n C dX9_load_56 2 rfl rfl ?_
    refine g_getR (ci := 9) (j := 7) C dX9_load_57 rfl (by decide) rfl inT_X9 (by decide) k_333 rfl rfl rfl ?_
    obtain ⟨m_5, hk_5, h⟩ := b1_some h
    refine g_vV (As := [.ref (oa (gw Γ) (gR m_4 0 7))]) (a := 3) (ci := 7) C dX9_load_60 mf_X7_restart k_335 rfl (by decide) ⟨by decide, by decide⟩ rfl rfl (Nat.le_of_ble_eq_true rfl) (by decide) rfl (c_X7_restart N (gl Γ) C.2.2.2.2 (gw Γ) (gR m_4 0 7) m_4 _ hk_5) ?_
    refine g_aload_n C dX9_load_63 2 rfl rfl ?_
    refine g_getT (b := 6) (ci := 9) (j := 2) C dX9_load_64 rfl (by decide) rfl inT_X9 (by decide) k_339 rfl rfl rfl rfl ?_
    obtain ⟨m_6, hk_6, h⟩ := b1_some h
    refine g_vV (As := []) (a := 6) (ci := 2) C dX9_load_67 mf_X2_clear k_340 rfl (by decide) ⟨by decide, by decide⟩ rfl rfl (Nat.le_of_ble_eq_true rfl) (by decide) rfl (c_X2_clear N (gl Γ) C.2.2.2.2 (gw Γ)  m_5 _ hk_6) ?_
    refine g_aload_n C dX9_load_70 2 rfl rfl ?_
    refine g_getR (ci := 9) (j := 7) C dX9_load_71 rfl (by decide) rfl inT_X9 (by decide) k_333 rfl rfl rfl ?_
    obtain ⟨g_7, h⟩ := gd_some h
    refine g_getI (ci := 6) (j := 2) C dX9_load_74 rfl (by decide) rfl inT_X6 (by decide) k_345 rfl g_7 ?_
    obtain rfl := Option.some.inj h
    exact (hE).1 _ rfl 0 (by decide) 77 _ dX9_load_77
  · replace h := it_t c_8 h
    obtain rfl := Option.some.inj h
    exact g_throw (n := 12) C tf_1 dX9_load_24 dX9_load_27 dX9_load_28 dX9_load_30 dX9_load_33 (List.mem_of_getElem? (i := 12) rfl) (by decide) (Nat.le_of_ble_eq_true rfl) (by decide) ((hE).2 1 rfl)
theorem c_X9_load (N : Nat) (l : Launch) (hst : l.stackTraces = false) (w : Om)  (m : Mem) (o : (Int32 ⊕ Nat) × Mem) (h : f_X9_load N  m = some o) : XI l yX9_load cX9_load 3 (some .int) 10 270 1 w [.ref (oa w 0)] m o := XI_of hst (by decide +kernel) RX9 rfl (Nat.le_of_ble_eq_true rfl) (fun Γ hw hl C hE => by
  subst hw; subst hl
  exact t_X9_load N Γ C  m o h hE)
set_option maxRecDepth 100000 in
set_option maxHeartbeats 4000000 in
theorem t_X9_errorCode (N : Nat) (Γ : Gc) (C : Cx Γ cX9_errorCode 1 RX9 (rmK 0 0 0))  (m : Mem) (b : Int32 × Mem) (h : f_X9_errorCode N  m = some b) (hE : EIn Γ 1 cX9_errorCode b) : G Γ 1 0 m 0 [(0, .ref (oa (gw Γ) 0))] [] := by
  unfold f_X9_errorCode at h
  refine g_aload_n C dX9_errorCode_0 0 rfl rfl ?_
  refine g_getT (b := 1) (ci := 9) (j := 0) C dX9_errorCode_1 rfl (by decide) rfl inT_X9 (by decide) k_322 rfl rfl rfl rfl ?_
  refine g_getI (ci := 8) (j := 2) C dX9_errorCode_4 rfl (by decide) rfl inT_X8 (by decide) k_346 rfl rfl ?_
  obtain rfl := Option.some.inj h
  exact hE 7 _ dX9_errorCode_7
theorem c_X9_errorCode (N : Nat) (l : Launch) (hst : l.stackTraces = false) (w : Om)  (m : Mem) (o : Int32 × Mem) (h : f_X9_errorCode N  m = some o) : KI l yX9_errorCode cX9_errorCode 1 (some .int) 0 0 w [.ref (oa w 0)] m o.1 o.2 := KI_of hst (by decide +kernel) RX9 rfl (Nat.le_of_ble_eq_true rfl) (fun Γ hw hl C hE => by
  subst hw; subst hl
  exact t_X9_errorCode N Γ C  m o h hE)
set_option maxRecDepth 100000 in
set_option maxHeartbeats 4000000 in
theorem t_X9_errorPosition (N : Nat) (Γ : Gc) (C : Cx Γ cX9_errorPosition 1 RX9 (rmK 0 0 0))  (m : Mem) (b : Int32 × Mem) (h : f_X9_errorPosition N  m = some b) (hE : EIn Γ 1 cX9_errorPosition b) : G Γ 1 0 m 0 [(0, .ref (oa (gw Γ) 0))] [] := by
  unfold f_X9_errorPosition at h
  refine g_aload_n C dX9_errorPosition_0 0 rfl rfl ?_
  refine g_getT (b := 1) (ci := 9) (j := 0) C dX9_errorPosition_1 rfl (by decide) rfl inT_X9 (by decide) k_322 rfl rfl rfl rfl ?_
  refine g_getI (ci := 8) (j := 3) C dX9_errorPosition_4 rfl (by decide) rfl inT_X8 (by decide) k_347 rfl rfl ?_
  obtain rfl := Option.some.inj h
  exact hE 7 _ dX9_errorPosition_7
theorem c_X9_errorPosition (N : Nat) (l : Launch) (hst : l.stackTraces = false) (w : Om)  (m : Mem) (o : Int32 × Mem) (h : f_X9_errorPosition N  m = some o) : KI l yX9_errorPosition cX9_errorPosition 1 (some .int) 0 0 w [.ref (oa w 0)] m o.1 o.2 := KI_of hst (by decide +kernel) RX9 rfl (Nat.le_of_ble_eq_true rfl) (fun Γ hw hl C hE => by
  subst hw; subst hl
  exact t_X9_errorPosition N Γ C  m o h hE)
set_option maxRecDepth 100000 in
set_option maxHeartbeats 4000000 in
theorem t_X9_count (N : Nat) (Γ : Gc) (C : Cx Γ cX9_count 2 RX9 (rmK 6 90 1)) (v1 : Int32) (m : Mem) (b : (Int32 ⊕ Nat) × Mem) (h : f_X9_count N v1 m = some b) (hE : EI Γ 2 cX9_count 1 b) : G Γ 2 0 m 0 [(0, .ref (oa (gw Γ) 0)), (1, .int v1)] [] := by
  unfold f_X9_count at h
  refine g_iload_n C dX9_count_0 1 rfl rfl ?_
  by_cases c_2 : v1 = (0 : Int32)
  · replace h := it_t c_2 h
    refine g_tin (tgt := 44) (off := 43) C dX9_count_1 (by rw [c_2]; decide) (by rw [c_2]; decide) (by rw [c_2]; rfl) (by decide) ?_
    refine g_aload_n C dX9_count_44 0 rfl rfl ?_
    refine g_getR (ci := 9) (j := 7) C dX9_count_45 rfl (by decide) rfl inT_X9 (by decide) k_333 rfl rfl rfl ?_
    obtain ⟨g_1, h⟩ := gd_some h
    refine g_getI (ci := 6) (j := 0) C dX9_count_48 rfl (by decide) rfl inT_X6 (by decide) k_348 rfl g_1 ?_
    obtain rfl := Option.some.inj h
    exact (hE).1 _ rfl 0 (by decide) 51 _ dX9_count_51
  · replace h := it_f c_2 h
    by_cases c_4 : v1 = (1 : Int32)
    · replace h := it_t c_4 h
      refine g_tin (tgt := 52) (off := 51) C dX9_count_1 (by rw [c_4]; decide) (by rw [c_4]; decide) (by rw [c_4]; rfl) (by decide) ?_
      refine g_aload_n C dX9_count_52 0 rfl rfl ?_
      refine g_getR (ci := 9) (j := 7) C dX9_count_53 rfl (by decide) rfl inT_X9 (by decide) k_333 rfl rfl rfl ?_
      obtain ⟨g_3, h⟩ := gd_some h
      refine g_getI (ci := 6) (j := 1) C dX9_count_56 rfl (by decide) rfl inT_X6 (by decide) k_349 rfl g_3 ?_
      obtain rfl := Option.some.inj h
      exact (hE).1 _ rfl 0 (by decide) 59 _ dX9_count_59
    · replace h := it_f c_4 h
      by_cases c_6 : v1 = (2 : Int32)
      · replace h := it_t c_6 h
        refine g_tin (tgt := 60) (off := 59) C dX9_count_1 (by rw [c_6]; decide) (by rw [c_6]; decide) (by rw [c_6]; rfl) (by decide) ?_
        refine g_aload_n C dX9_count_60 0 rfl rfl ?_
        refine g_getR (ci := 9) (j := 7) C dX9_count_61 rfl (by decide) rfl inT_X9 (by decide) k_333 rfl rfl rfl ?_
        obtain ⟨g_5, h⟩ := gd_some h
        refine g_getI (ci := 6) (j := 2) C dX9_count_64 rfl (by decide) rfl inT_X6 (by decide) k_345 rfl g_5 ?_
        obtain rfl := Option.some.inj h
        exact (hE).1 _ rfl 0 (by decide) 67 _ dX9_count_67
      · replace h := it_f c_6 h
        by_cases c_8 : v1 = (3 : Int32)
        · replace h := it_t c_8 h
          refine g_tin (tgt := 68) (off := 67) C dX9_count_1 (by rw [c_8]; decide) (by rw [c_8]; decide) (by rw [c_8]; rfl) (by decide) ?_
          refine g_aload_n C dX9_count_68 0 rfl rfl ?_
          refine g_getT (b := 3) (ci := 9) (j := 1) C dX9_count_69 rfl (by decide) rfl inT_X9 (by decide) k_334 rfl rfl rfl rfl ?_
          obtain ⟨r_7, m_7, hk_7, h⟩ := b2_some h
          refine g_vI (As := []) (a := 3) (ci := 7) C dX9_count_72 mf_X7_countReviews k_350 rfl (by decide) ⟨by decide, by decide⟩ rfl rfl (Nat.le_of_ble_eq_true rfl) (by decide) rfl (c_X7_countReviews N (gl Γ) C.2.2.2.2 (gw Γ)  m _ hk_7) ?_
          obtain rfl := Option.some.inj h
          exact (hE).1 _ rfl 0 (by decide) 75 _ dX9_count_75
        · replace h := it_f c_8 h
          by_cases c_10 : v1 = (4 : Int32)
          · replace h := it_t c_10 h
            refine g_tin (tgt := 76) (off := 75) C dX9_count_1 (by rw [c_10]; decide) (by rw [c_10]; decide) (by rw [c_10]; rfl) (by decide) ?_
            refine g_aload_n C dX9_count_76 0 rfl rfl ?_
            refine g_getT (b := 3) (ci := 9) (j := 1) C dX9_count_77 rfl (by decide) rfl inT_X9 (by decide) k_334 rfl rfl rfl rfl ?_
            obtain ⟨r_9, m_9, hk_9, h⟩ := b2_some h
            refine g_vI (As := []) (a := 3) (ci := 7) C dX9_count_80 mf_X7_countScores k_354 rfl (by decide) ⟨by decide, by decide⟩ rfl rfl (Nat.le_of_ble_eq_true rfl) (by decide) rfl (c_X7_countScores N (gl Γ) C.2.2.2.2 (gw Γ)  m _ hk_9) ?_
            obtain rfl := Option.some.inj h
            exact (hE).1 _ rfl 0 (by decide) 83 _ dX9_count_83
          · replace h := it_f c_10 h
            by_cases c_12 : v1 = (5 : Int32)
            · replace h := it_t c_12 h
              refine g_tin (tgt := 84) (off := 83) C dX9_count_1 (by rw [c_12]; decide) (by rw [c_12]; decide) (by rw [c_12]; rfl) (by decide) ?_
              refine g_aload_n C dX9_count_84 0 rfl rfl ?_
              refine g_getT (b := 3) (ci := 9) (j := 1) C dX9_count_85 rfl (by decide) rfl inT_X9 (by decide) k_334 rfl rfl rfl rfl ?_
              obtain ⟨r_11, m_11, hk_11, h⟩ := b2_some h
              refine g_vI (As := []) (a := 3) (ci := 7) C dX9_count_88 mf_X7_countDeclared k_358 rfl (by decide) ⟨by decide, by decide⟩ rfl rfl (Nat.le_of_ble_eq_true rfl) (by decide) rfl (c_X7_countDeclared N (gl Γ) C.2.2.2.2 (gw Γ)  m _ hk_11) ?_
              obtain rfl := Option.some.inj h
              exact (hE).1 _ rfl 0 (by decide) 91 _ dX9_count_91
            · replace h := it_f c_12 h
              by_cases c_14 : v1 = (6 : Int32)
              · replace h := it_t c_14 h
                refine g_tin (tgt := 92) (off := 91) C dX9_count_1 (by rw [c_14]; decide) (by rw [c_14]; decide) (by rw [c_14]; rfl) (by decide) ?_
                refine g_aload_n C dX9_count_92 0 rfl rfl ?_
                refine g_getT (b := 3) (ci := 9) (j := 1) C dX9_count_93 rfl (by decide) rfl inT_X9 (by decide) k_334 rfl rfl rfl rfl ?_
                refine g_getI (ci := 7) (j := 2) C dX9_count_96 rfl (by decide) rfl inT_X7 (by decide) k_362 rfl rfl ?_
                obtain ⟨r_13, m_13, hk_13, h⟩ := b2_some h
                refine g_sI (As := [.int (gI m 3 2)]) C dX9_count_99 mf_J6_bitCount_0f7a4 k_363 ⟨by decide, by decide⟩ rfl rfl (Nat.le_of_ble_eq_true rfl) (by decide) (c_J6_bitCount_0f7a4 N (gl Γ) C.2.2.2.2 (gw Γ) (gI m 3 2) m _ hk_13) ?_
                obtain rfl := Option.some.inj h
                exact (hE).1 _ rfl 0 (by decide) 102 _ dX9_count_102
              · replace h := it_f c_14 h
                refine g_tout (tgt := 103) C dX9_count_1 (sw7 c_2 c_4 c_6 c_8 c_10 c_12 c_14) (by decide) ?_
                obtain rfl := Option.some.inj h
                exact g_throw (n := 13) C tf_1 dX9_count_103 dX9_count_106 dX9_count_107 dX9_count_109 dX9_count_112 (List.mem_of_getElem? (i := 13) rfl) (by decide) (Nat.le_of_ble_eq_true rfl) (by decide) ((hE).2 1 rfl)
theorem c_X9_count (N : Nat) (l : Launch) (hst : l.stackTraces = false) (w : Om) (v1 : Int32) (m : Mem) (o : (Int32 ⊕ Nat) × Mem) (h : f_X9_count N v1 m = some o) : XI l yX9_count cX9_count 2 (some .int) 6 90 1 w [.ref (oa w 0), .int v1] m o := XI_of hst (by decide +kernel) RX9 rfl (Nat.le_of_ble_eq_true rfl) (fun Γ hw hl C hE => by
  subst hw; subst hl
  exact t_X9_count N Γ C v1 m o h hE)
set_option maxRecDepth 100000 in
set_option maxHeartbeats 4000000 in
theorem t_X9_checkProposal_15 (N : Nat) (Γ : Gc) (C : Cx Γ cX9_checkProposal 2 RX9 (rmK 6 90 1)) (b : (Unit ⊕ Nat) × Mem) (hE : EV Γ 2 cX9_checkProposal 1 b)  (m : Mem) (h : B_X9_checkProposal_15 N  m = some b) : G Γ 2 0 m 15 [] [] := by
  unfold B_X9_checkProposal_15 at h
  obtain rfl := Option.some.inj h
  exact g_throwW (n := 15) C tf_2 dX9_checkProposal_15 dX9_checkProposal_18 dX9_checkProposal_19 dX9_checkProposal_22 dX9_checkProposal_25 (List.mem_of_getElem? (i := 15) rfl) (by decide) (Nat.le_of_ble_eq_true rfl) (by decide) ((hE).2 2 rfl)
set_option maxRecDepth 100000 in
set_option maxHeartbeats 4000000 in
theorem t_X9_checkProposal (N : Nat) (Γ : Gc) (C : Cx Γ cX9_checkProposal 2 RX9 (rmK 6 90 1)) (v1 : Int32) (m : Mem) (b : (Unit ⊕ Nat) × Mem) (h : f_X9_checkProposal N v1 m = some b) (hE : EV Γ 2 cX9_checkProposal 1 b) : G Γ 2 0 m 0 [(0, .ref (oa (gw Γ) 0)), (1, .int v1)] [] := by
  unfold f_X9_checkProposal at h
  refine g_iload_n C dX9_checkProposal_0 1 rfl rfl ?_
  refine g_if_lt (tgt := 15) C dX9_checkProposal_1 (by decide) (fun c_3 => ?_) (fun c_3 => ?_)
  · replace h := it_t c_3 h
    refine g_sub [] rfl ?_
    exact t_X9_checkProposal_15 N Γ C b hE  m h
  · replace h := it_f c_3 h
    refine g_iload_n C dX9_checkProposal_4 1 rfl rfl ?_
    refine g_aload_n C dX9_checkProposal_5 0 rfl rfl ?_
    refine g_getR (ci := 9) (j := 7) C dX9_checkProposal_6 rfl (by decide) rfl inT_X9 (by decide) k_333 rfl rfl rfl ?_
    obtain ⟨g_1, h⟩ := gd_some h
    refine g_getI (ci := 6) (j := 2) C dX9_checkProposal_9 rfl (by decide) rfl inT_X6 (by decide) k_345 rfl g_1 ?_
    refine g_icmp_lt (tgt := 26) C dX9_checkProposal_12 (by decide) (fun c_2 => ?_) (fun c_2 => ?_)
    · replace h := it_t c_2 h
      obtain rfl := Option.some.inj h
      exact (hE).1 _ rfl 0 (by decide) 26 _ dX9_checkProposal_26
    · replace h := it_f c_2 h
      refine g_sub [] rfl ?_
      exact t_X9_checkProposal_15 N Γ C b hE  m h
theorem c_X9_checkProposal (N : Nat) (l : Launch) (hst : l.stackTraces = false) (w : Om) (v1 : Int32) (m : Mem) (o : (Unit ⊕ Nat) × Mem) (h : f_X9_checkProposal N v1 m = some o) : XV l yX9_checkProposal cX9_checkProposal 2 none 6 90 1 w [.ref (oa w 0), .int v1] m o := XV_of hst (by decide +kernel) RX9 rfl (Nat.le_of_ble_eq_true rfl) (fun Γ hw hl C hE => by
  subst hw; subst hl
  exact t_X9_checkProposal N Γ C v1 m o h hE)
set_option maxRecDepth 100000 in
set_option maxHeartbeats 4000000 in
theorem t_X9_checkReviewer_15 (N : Nat) (Γ : Gc) (C : Cx Γ cX9_checkReviewer 2 RX9 (rmK 6 90 1)) (b : (Unit ⊕ Nat) × Mem) (hE : EV Γ 2 cX9_checkReviewer 1 b)  (m : Mem) (h : B_X9_checkReviewer_15 N  m = some b) : G Γ 2 0 m 15 [] [] := by
  unfold B_X9_checkReviewer_15 at h
  obtain rfl := Option.some.inj h
  exact g_throwW (n := 14) C tf_2 dX9_checkReviewer_15 dX9_checkReviewer_18 dX9_checkReviewer_19 dX9_checkReviewer_22 dX9_checkReviewer_25 (List.mem_of_getElem? (i := 14) rfl) (by decide) (Nat.le_of_ble_eq_true rfl) (by decide) ((hE).2 2 rfl)
set_option maxRecDepth 100000 in
set_option maxHeartbeats 4000000 in
theorem t_X9_checkReviewer (N : Nat) (Γ : Gc) (C : Cx Γ cX9_checkReviewer 2 RX9 (rmK 6 90 1)) (v1 : Int32) (m : Mem) (b : (Unit ⊕ Nat) × Mem) (h : f_X9_checkReviewer N v1 m = some b) (hE : EV Γ 2 cX9_checkReviewer 1 b) : G Γ 2 0 m 0 [(0, .ref (oa (gw Γ) 0)), (1, .int v1)] [] := by
  unfold f_X9_checkReviewer at h
  refine g_iload_n C dX9_checkReviewer_0 1 rfl rfl ?_
  refine g_if_lt (tgt := 15) C dX9_checkReviewer_1 (by decide) (fun c_3 => ?_) (fun c_3 => ?_)
  · replace h := it_t c_3 h
    refine g_sub [] rfl ?_
    exact t_X9_checkReviewer_15 N Γ C b hE  m h
  · replace h := it_f c_3 h
    refine g_iload_n C dX9_checkReviewer_4 1 rfl rfl ?_
    refine g_aload_n C dX9_checkReviewer_5 0 rfl rfl ?_
    refine g_getR (ci := 9) (j := 7) C dX9_checkReviewer_6 rfl (by decide) rfl inT_X9 (by decide) k_333 rfl rfl rfl ?_
    obtain ⟨g_1, h⟩ := gd_some h
    refine g_getI (ci := 6) (j := 1) C dX9_checkReviewer_9 rfl (by decide) rfl inT_X6 (by decide) k_349 rfl g_1 ?_
    refine g_icmp_lt (tgt := 26) C dX9_checkReviewer_12 (by decide) (fun c_2 => ?_) (fun c_2 => ?_)
    · replace h := it_t c_2 h
      obtain rfl := Option.some.inj h
      exact (hE).1 _ rfl 0 (by decide) 26 _ dX9_checkReviewer_26
    · replace h := it_f c_2 h
      refine g_sub [] rfl ?_
      exact t_X9_checkReviewer_15 N Γ C b hE  m h
theorem c_X9_checkReviewer (N : Nat) (l : Launch) (hst : l.stackTraces = false) (w : Om) (v1 : Int32) (m : Mem) (o : (Unit ⊕ Nat) × Mem) (h : f_X9_checkReviewer N v1 m = some o) : XV l yX9_checkReviewer cX9_checkReviewer 2 none 6 90 1 w [.ref (oa w 0), .int v1] m o := XV_of hst (by decide +kernel) RX9 rfl (Nat.le_of_ble_eq_true rfl) (fun Γ hw hl C hE => by
  subst hw; subst hl
  exact t_X9_checkReviewer N Γ C v1 m o h hE)
set_option maxRecDepth 100000 in
set_option maxHeartbeats 4000000 in
theorem t_X9_checkPair (N : Nat) (Γ : Gc) (C : Cx Γ cX9_checkPair 3 RX9 (rmK 7 111 2)) (v1 : Int32) (v2 : Int32) (m : Mem) (b : (Unit ⊕ Nat) × Mem) (h : f_X9_checkPair N v1 v2 m = some b) (hE : EV Γ 3 cX9_checkPair 2 b) : G Γ 3 0 m 0 [(0, .ref (oa (gw Γ) 0)), (1, .int v1), (2, .int v2)] [] := by
  unfold f_X9_checkPair at h
  refine g_aload_n C dX9_checkPair_0 0 rfl rfl ?_
  refine g_iload_n C dX9_checkPair_1 1 rfl rfl ?_
  rcases x1_some h with ⟨m_1, hk_1, h⟩ | ⟨e_1, m_1, hk_1, rfl⟩
  · refine g_xvV_ok (mc' := 1) (As := [.int v1]) (a := 0) (ci := 9) C dX9_checkPair_2 mf_X9_checkReviewer k_364 rfl (by decide) ⟨by decide, by decide⟩ rfl rfl (Nat.le_of_ble_eq_true rfl) (by decide) rfl (c_X9_checkReviewer N (gl Γ) C.2.2.2.2 (gw Γ) v1 m _ hk_1) ?_
    refine g_aload_n C dX9_checkPair_5 0 rfl rfl ?_
    refine g_iload_n C dX9_checkPair_6 2 rfl rfl ?_
    rcases x1_some h with ⟨m_2, hk_2, h⟩ | ⟨e_2, m_2, hk_2, rfl⟩
    · refine g_xvV_ok (mc' := 1) (As := [.int v2]) (a := 0) (ci := 9) C dX9_checkPair_7 mf_X9_checkProposal k_368 rfl (by decide) ⟨by decide, by decide⟩ rfl rfl (Nat.le_of_ble_eq_true rfl) (by decide) rfl (c_X9_checkProposal N (gl Γ) C.2.2.2.2 (gw Γ) v2 m_1 _ hk_2) ?_
      obtain rfl := Option.some.inj h
      exact (hE).1 _ rfl 2 (by decide) 10 _ dX9_checkPair_10
    · exact g_xvV_th (mc' := 1) (As := [.int v2]) (a := 0) (ci := 9) C dX9_checkPair_7 mf_X9_checkProposal k_368 rfl (by decide) ⟨by decide, by decide⟩ rfl rfl (Nat.le_of_ble_eq_true rfl) (by decide) rfl (c_X9_checkProposal N (gl Γ) C.2.2.2.2 (gw Γ) v2 m_1 _ hk_2) (hE.2 _ rfl)
  · exact g_xvV_th (mc' := 1) (As := [.int v1]) (a := 0) (ci := 9) C dX9_checkPair_2 mf_X9_checkReviewer k_364 rfl (by decide) ⟨by decide, by decide⟩ rfl rfl (Nat.le_of_ble_eq_true rfl) (by decide) rfl (c_X9_checkReviewer N (gl Γ) C.2.2.2.2 (gw Γ) v1 m _ hk_1) (hE.2 _ rfl)
theorem c_X9_checkPair (N : Nat) (l : Launch) (hst : l.stackTraces = false) (w : Om) (v1 : Int32) (v2 : Int32) (m : Mem) (o : (Unit ⊕ Nat) × Mem) (h : f_X9_checkPair N v1 v2 m = some o) : XV l yX9_checkPair cX9_checkPair 3 none 7 111 2 w [.ref (oa w 0), .int v1, .int v2] m o := XV_of hst (by decide +kernel) RX9 rfl (Nat.le_of_ble_eq_true rfl) (fun Γ hw hl C hE => by
  subst hw; subst hl
  exact t_X9_checkPair N Γ C v1 v2 m o h hE)
set_option maxRecDepth 100000 in
set_option maxHeartbeats 4000000 in
theorem t_X9_isConflict (N : Nat) (Γ : Gc) (C : Cx Γ cX9_isConflict 3 RX9 (rmK 8 133 2)) (v1 : Int32) (v2 : Int32) (m : Mem) (b : (Int32 ⊕ Nat) × Mem) (h : f_X9_isConflict N v1 v2 m = some b) (hE : EZ Γ 3 cX9_isConflict 2 b) : G Γ 3 0 m 0 [(0, .ref (oa (gw Γ) 0)), (1, .int v1), (2, .int v2)] [] := by
  unfold f_X9_isConflict at h
  refine g_aload_n C dX9_isConflict_0 0 rfl rfl ?_
  refine g_iload_n C dX9_isConflict_1 1 rfl rfl ?_
  refine g_iload_n C dX9_isConflict_2 2 rfl rfl ?_
  rcases x1_some h with ⟨m_1, hk_1, h⟩ | ⟨e_1, m_1, hk_1, rfl⟩
  · refine g_xvV_ok (mc' := 2) (As := [.int v1, .int v2]) (a := 0) (ci := 9) C dX9_isConflict_3 mf_X9_checkPair k_372 rfl (by decide) ⟨by decide, by decide⟩ rfl rfl (Nat.le_of_ble_eq_true rfl) (by decide) rfl (c_X9_checkPair N (gl Γ) C.2.2.2.2 (gw Γ) v1 v2 m _ hk_1) ?_
    refine g_aload_n C dX9_isConflict_6 0 rfl rfl ?_
    refine g_getR (ci := 9) (j := 7) C dX9_isConflict_7 rfl (by decide) rfl inT_X9 (by decide) k_333 rfl rfl rfl ?_
    refine g_aload_n C dX9_isConflict_10 0 rfl rfl ?_
    refine g_getT (b := 3) (ci := 9) (j := 1) C dX9_isConflict_11 rfl (by decide) rfl inT_X9 (by decide) k_334 rfl rfl rfl rfl ?_
    refine g_iload_n C dX9_isConflict_14 1 rfl rfl ?_
    refine g_iload_n C dX9_isConflict_15 2 rfl rfl ?_
    obtain ⟨r_2, m_2, hk_2, h⟩ := b2_some h
    refine g_sI (As := [.ref (oa (gw Γ) (gR m_1 0 7)), .ref (oa (gw Γ) 3), .int v1, .int v2]) C dX9_isConflict_16 mf_X9_hasConflict k_114 ⟨by decide, by decide⟩ rfl rfl (Nat.le_of_ble_eq_true rfl) (by decide) (c_X9_hasConflict N (gl Γ) C.2.2.2.2 (gw Γ) (gR m_1 0 7) v1 v2 m_1 _ hk_2) ?_
    obtain ⟨g_3, h⟩ := gd_some h
    obtain rfl := Option.some.inj h
    exact (hE).1 _ rfl 2 (by decide) 19 _ g_3 dX9_isConflict_19
  · exact g_xvV_th (mc' := 2) (As := [.int v1, .int v2]) (a := 0) (ci := 9) C dX9_isConflict_3 mf_X9_checkPair k_372 rfl (by decide) ⟨by decide, by decide⟩ rfl rfl (Nat.le_of_ble_eq_true rfl) (by decide) rfl (c_X9_checkPair N (gl Γ) C.2.2.2.2 (gw Γ) v1 v2 m _ hk_1) (hE.2 _ rfl)
theorem c_X9_isConflict (N : Nat) (l : Launch) (hst : l.stackTraces = false) (w : Om) (v1 : Int32) (v2 : Int32) (m : Mem) (o : (Int32 ⊕ Nat) × Mem) (h : f_X9_isConflict N v1 v2 m = some o) : XI l yX9_isConflict cX9_isConflict 3 (some .boolean) 8 133 2 w [.ref (oa w 0), .int v1, .int v2] m o := XZ_of hst (by decide +kernel) RX9 rfl (Nat.le_of_ble_eq_true rfl) (fun Γ hw hl C hE => by
  subst hw; subst hl
  exact t_X9_isConflict N Γ C v1 v2 m o h hE)
set_option maxRecDepth 100000 in
set_option maxHeartbeats 4000000 in
theorem t_X9_match (N : Nat) (Γ : Gc) (C : Cx Γ cX9_match 3 RX9 (rmK 8 133 2)) (v1 : Int32) (v2 : Int32) (m : Mem) (b : (Int32 ⊕ Nat) × Mem) (h : f_X9_match N v1 v2 m = some b) (hE : EI Γ 3 cX9_match 2 b) : G Γ 3 0 m 0 [(0, .ref (oa (gw Γ) 0)), (1, .int v1), (2, .int v2)] [] := by
  unfold f_X9_match at h
  refine g_aload_n C dX9_match_0 0 rfl rfl ?_
  refine g_iload_n C dX9_match_1 1 rfl rfl ?_
  refine g_iload_n C dX9_match_2 2 rfl rfl ?_
  rcases x1_some h with ⟨m_1, hk_1, h⟩ | ⟨e_1, m_1, hk_1, rfl⟩
  · refine g_xvV_ok (mc' := 2) (As := [.int v1, .int v2]) (a := 0) (ci := 9) C dX9_match_3 mf_X9_checkPair k_372 rfl (by decide) ⟨by decide, by decide⟩ rfl rfl (Nat.le_of_ble_eq_true rfl) (by decide) rfl (c_X9_checkPair N (gl Γ) C.2.2.2.2 (gw Γ) v1 v2 m _ hk_1) ?_
    refine g_aload_n C dX9_match_6 0 rfl rfl ?_
    refine g_getR (ci := 9) (j := 7) C dX9_match_7 rfl (by decide) rfl inT_X9 (by decide) k_333 rfl rfl rfl ?_
    refine g_iload_n C dX9_match_10 1 rfl rfl ?_
    refine g_iload_n C dX9_match_11 2 rfl rfl ?_
    obtain ⟨g_2, h⟩ := gd_some h
    obtain ⟨r_3, m_3, hk_3, h⟩ := b2_some h
    refine g_vI (As := [.int v1, .int v2]) (a := (gR m_1 0 7)) (ci := 6) C dX9_match_12 mf_X6_matchOf k_376 rfl (by decide) ⟨by decide, by decide⟩ rfl rfl (Nat.le_of_ble_eq_true rfl) (by decide) g_2 (c_X6_matchOf N (gl Γ) C.2.2.2.2 (gw Γ) (gR m_1 0 7) v1 v2 m_1 _ hk_3) ?_
    obtain rfl := Option.some.inj h
    exact (hE).1 _ rfl 2 (by decide) 15 _ dX9_match_15
  · exact g_xvV_th (mc' := 2) (As := [.int v1, .int v2]) (a := 0) (ci := 9) C dX9_match_3 mf_X9_checkPair k_372 rfl (by decide) ⟨by decide, by decide⟩ rfl rfl (Nat.le_of_ble_eq_true rfl) (by decide) rfl (c_X9_checkPair N (gl Γ) C.2.2.2.2 (gw Γ) v1 v2 m _ hk_1) (hE.2 _ rfl)
theorem c_X9_match (N : Nat) (l : Launch) (hst : l.stackTraces = false) (w : Om) (v1 : Int32) (v2 : Int32) (m : Mem) (o : (Int32 ⊕ Nat) × Mem) (h : f_X9_match N v1 v2 m = some o) : XI l yX9_match cX9_match 3 (some .int) 8 133 2 w [.ref (oa w 0), .int v1, .int v2] m o := XI_of hst (by decide +kernel) RX9 rfl (Nat.le_of_ble_eq_true rfl) (fun Γ hw hl C hE => by
  subst hw; subst hl
  exact t_X9_match N Γ C v1 v2 m o h hE)
set_option maxRecDepth 100000 in
set_option maxHeartbeats 4000000 in
theorem t_X9_declare_56 (N : Nat) (Γ : Gc) (C : Cx Γ cX9_declare 4 RX9 (rmK 8 133 3)) (b : (Int32 ⊕ Nat) × Mem) (hE : EZ Γ 4 cX9_declare 3 b) (v1 : Int32) (v2 : Int32) (s0 : Int32) (m : Mem) (h : B_X9_declare_56 N v1 v2 s0 m = some b) : G Γ 4 2 m 56 [(0, .ref (oa (gw Γ) 0)), (1, .int v1), (2, .int v2)] [.int s0] := by
  unfold B_X9_declare_56 at h
  refine g_istore_n (lv' := [(3, .int s0), (0, .ref (oa (gw Γ) 0)), (1, .int v1), (2, .int v2)]) C dX9_declare_56 rfl (by decide) rfl ?_
  refine g_aload_n C dX9_declare_57 1 rfl rfl ?_
  refine g_getT (b := 3) (ci := 9) (j := 1) C dX9_declare_58 rfl (by decide) rfl inT_X9 (by decide) k_334 rfl rfl rfl rfl ?_
  refine g_iload_n C dX9_declare_61 2 rfl rfl ?_
  refine g_iload_n C dX9_declare_62 3 rfl rfl ?_
  obtain ⟨m_5, hk_5, h⟩ := b1_some h
  refine g_vV (As := [.int v1, .int v2]) (a := 3) (ci := 7) C dX9_declare_63 mf_X7_addConflict k_382 rfl (by decide) ⟨by decide, by decide⟩ rfl rfl (Nat.le_of_ble_eq_true rfl) (by decide) rfl (c_X7_addConflict N (gl Γ) C.2.2.2.2 (gw Γ) v1 v2 m _ hk_5) ?_
  refine g_iload_n C dX9_declare_66 0 rfl rfl ?_
  obtain ⟨g_6, h⟩ := gd_some h
  obtain rfl := Option.some.inj h
  exact (hE).1 _ rfl 2 (by decide) 67 _ g_6 dX9_declare_67
set_option maxRecDepth 100000 in
set_option maxHeartbeats 4000000 in
theorem t_X9_declare (N : Nat) (Γ : Gc) (C : Cx Γ cX9_declare 4 RX9 (rmK 8 133 3)) (v1 : Int32) (v2 : Int32) (m : Mem) (b : (Int32 ⊕ Nat) × Mem) (h : f_X9_declare N v1 v2 m = some b) (hE : EZ Γ 4 cX9_declare 3 b) : G Γ 4 0 m 0 [(0, .ref (oa (gw Γ) 0)), (1, .int v1), (2, .int v2)] [] := by
  unfold f_X9_declare at h
  refine g_aload_n C dX9_declare_0 0 rfl rfl ?_
  refine g_iload_n C dX9_declare_1 1 rfl rfl ?_
  refine g_iload_n C dX9_declare_2 2 rfl rfl ?_
  rcases x1_some h with ⟨m_1, hk_1, h⟩ | ⟨e_1, m_1, hk_1, rfl⟩
  · refine g_xvV_ok (mc' := 2) (As := [.int v1, .int v2]) (a := 0) (ci := 9) C dX9_declare_3 mf_X9_checkPair k_372 rfl (by decide) ⟨by decide, by decide⟩ rfl rfl (Nat.le_of_ble_eq_true rfl) (by decide) rfl (c_X9_checkPair N (gl Γ) C.2.2.2.2 (gw Γ) v1 v2 m _ hk_1) ?_
    refine g_aload_n C dX9_declare_6 0 rfl rfl ?_
    refine g_getT (b := 3) (ci := 9) (j := 1) C dX9_declare_7 rfl (by decide) rfl inT_X9 (by decide) k_334 rfl rfl rfl rfl ?_
    refine g_iload_n C dX9_declare_10 1 rfl rfl ?_
    refine g_iload_n C dX9_declare_11 2 rfl rfl ?_
    obtain ⟨r_2, m_2, hk_2, h⟩ := b2_some h
    refine g_vI (As := [.int v1, .int v2]) (a := 3) (ci := 7) C dX9_declare_12 mf_X7_hasReview k_377 rfl (by decide) ⟨by decide, by decide⟩ rfl rfl (Nat.le_of_ble_eq_true rfl) (by decide) rfl (c_X7_hasReview N (gl Γ) C.2.2.2.2 (gw Γ) v1 v2 m_1 _ hk_2) ?_
    refine g_if_eq (tgt := 28) C dX9_declare_15 (by decide) (fun c_8 => ?_) (fun c_8 => ?_)
    · replace h := it_t c_8 h
      refine g_aload_n C dX9_declare_28 0 rfl rfl ?_
      refine g_getT (b := 6) (ci := 9) (j := 2) C dX9_declare_29 rfl (by decide) rfl inT_X9 (by decide) k_339 rfl rfl rfl rfl ?_
      refine g_aload_n C dX9_declare_32 0 rfl rfl ?_
      refine g_getT (b := 3) (ci := 9) (j := 1) C dX9_declare_33 rfl (by decide) rfl inT_X9 (by decide) k_334 rfl rfl rfl rfl ?_
      obtain ⟨m_3, hk_3, h⟩ := b1_some h
      refine g_vV (As := [.ref (oa (gw Γ) 3)]) (a := 6) (ci := 2) C dX9_declare_36 mf_X2_remember k_378 rfl (by decide) ⟨by decide, by decide⟩ rfl rfl (Nat.le_of_ble_eq_true rfl) (by decide) rfl (c_X2_remember N (gl Γ) C.2.2.2.2 (gw Γ)  m_2 _ hk_3) ?_
      refine g_aload_n C dX9_declare_39 0 rfl rfl ?_
      refine g_getT (b := 3) (ci := 9) (j := 1) C dX9_declare_40 rfl (by decide) rfl inT_X9 (by decide) k_334 rfl rfl rfl rfl ?_
      refine g_iload_n C dX9_declare_43 1 rfl rfl ?_
      refine g_iload_n C dX9_declare_44 2 rfl rfl ?_
      obtain ⟨r_4, m_4, hk_4, h⟩ := b2_some h
      refine g_vI (As := [.int v1, .int v2]) (a := 3) (ci := 7) C dX9_declare_45 mf_X7_isDeclared k_108 rfl (by decide) ⟨by decide, by decide⟩ rfl rfl (Nat.le_of_ble_eq_true rfl) (by decide) rfl (c_X7_isDeclared N (gl Γ) C.2.2.2.2 (gw Γ) v1 v2 m_3 _ hk_4) ?_
      refine g_if_ne (tgt := 55) C dX9_declare_48 (by decide) (fun c_7 => ?_) (fun c_7 => ?_)
      · replace h := it_f c_7 h
        refine g_iconst (v := (0 : Int32)) C dX9_declare_55 (by decide) ?_
        refine g_sub [0, 1, 2] rfl ?_
        exact t_X9_declare_56 N Γ C b hE v1 v2 (0 : Int32) m_4 h
      · replace h := it_t c_7 h
        refine g_iconst (v := (1 : Int32)) C dX9_declare_51 (by decide) ?_
        refine g_goto (tgt := 56) C dX9_declare_52 (by decide) ?_
        refine g_sub [0, 1, 2] rfl ?_
        exact t_X9_declare_56 N Γ C b hE v1 v2 (1 : Int32) m_4 h
    · replace h := it_f c_8 h
      obtain rfl := Option.some.inj h
      exact g_throw (n := 16) C tf_0 dX9_declare_18 dX9_declare_21 dX9_declare_22 dX9_declare_24 dX9_declare_27 (List.mem_of_getElem? (i := 16) rfl) (by decide) (Nat.le_of_ble_eq_true rfl) (by decide) ((hE).2 0 rfl)
  · exact g_xvV_th (mc' := 2) (As := [.int v1, .int v2]) (a := 0) (ci := 9) C dX9_declare_3 mf_X9_checkPair k_372 rfl (by decide) ⟨by decide, by decide⟩ rfl rfl (Nat.le_of_ble_eq_true rfl) (by decide) rfl (c_X9_checkPair N (gl Γ) C.2.2.2.2 (gw Γ) v1 v2 m _ hk_1) (hE.2 _ rfl)
theorem c_X9_declare (N : Nat) (l : Launch) (hst : l.stackTraces = false) (w : Om) (v1 : Int32) (v2 : Int32) (m : Mem) (o : (Int32 ⊕ Nat) × Mem) (h : f_X9_declare N v1 v2 m = some o) : XI l yX9_declare cX9_declare 4 (some .boolean) 8 133 3 w [.ref (oa w 0), .int v1, .int v2] m o := XZ_of hst (by decide +kernel) RX9 rfl (Nat.le_of_ble_eq_true rfl) (fun Γ hw hl C hE => by
  subst hw; subst hl
  exact t_X9_declare N Γ C v1 v2 m o h hE)
set_option maxRecDepth 100000 in
set_option maxHeartbeats 4000000 in
theorem t_X9_canTake_36 (N : Nat) (Γ : Gc) (C : Cx Γ cX9_canTake 3 RX9 (rmK 4 88 0)) (b : Int32 × Mem) (hE : EZn Γ 3 cX9_canTake b)  (m : Mem) (h : B_X9_canTake_36 N  m = some b) : G Γ 3 0 m 36 [] [] := by
  unfold B_X9_canTake_36 at h
  refine g_iconst (v := (0 : Int32)) C dX9_canTake_36 (by decide) ?_
  obtain rfl := Option.some.inj h
  exact hE 37 _ (show isB (0 : Int32) = true by decide) dX9_canTake_37
set_option maxRecDepth 100000 in
set_option maxHeartbeats 4000000 in
theorem t_X9_canTake (N : Nat) (Γ : Gc) (C : Cx Γ cX9_canTake 3 RX9 (rmK 4 88 0)) (v1 : Int32) (v2 : Int32) (m : Mem) (b : Int32 × Mem) (h : f_X9_canTake N v1 v2 m = some b) (hE : EZn Γ 3 cX9_canTake b) : G Γ 3 0 m 0 [(0, .ref (oa (gw Γ) 0)), (1, .int v1), (2, .int v2)] [] := by
  unfold f_X9_canTake at h
  refine g_aload_n C dX9_canTake_0 0 rfl rfl ?_
  refine g_getT (b := 3) (ci := 9) (j := 1) C dX9_canTake_1 rfl (by decide) rfl inT_X9 (by decide) k_334 rfl rfl rfl rfl ?_
  refine g_iload_n C dX9_canTake_4 1 rfl rfl ?_
  refine g_iload_n C dX9_canTake_5 2 rfl rfl ?_
  obtain ⟨r_1, m_1, hk_1, h⟩ := b2_some h
  refine g_vI (As := [.int v1, .int v2]) (a := 3) (ci := 7) C dX9_canTake_6 mf_X7_hasReview k_377 rfl (by decide) ⟨by decide, by decide⟩ rfl rfl (Nat.le_of_ble_eq_true rfl) (by decide) rfl (c_X7_hasReview N (gl Γ) C.2.2.2.2 (gw Γ) v1 v2 m _ hk_1) ?_
  refine g_if_ne (tgt := 36) C dX9_canTake_9 (by decide) (fun c_6 => ?_) (fun c_6 => ?_)
  · replace h := it_f c_6 h
    refine g_sub [] rfl ?_
    exact t_X9_canTake_36 N Γ C b hE  m_1 h
  · replace h := it_t c_6 h
    refine g_aload_n C dX9_canTake_12 0 rfl rfl ?_
    refine g_getT (b := 3) (ci := 9) (j := 1) C dX9_canTake_13 rfl (by decide) rfl inT_X9 (by decide) k_334 rfl rfl rfl rfl ?_
    refine g_iload_n C dX9_canTake_16 1 rfl rfl ?_
    obtain ⟨r_2, m_2, hk_2, h⟩ := b2_some h
    refine g_vI (As := [.int v1]) (a := 3) (ci := 7) C dX9_canTake_17 mf_X7_reviewsOfReviewer k_386 rfl (by decide) ⟨by decide, by decide⟩ rfl rfl (Nat.le_of_ble_eq_true rfl) (by decide) rfl (c_X7_reviewsOfReviewer N (gl Γ) C.2.2.2.2 (gw Γ) v1 m_1 _ hk_2) ?_
    refine g_aload_n C dX9_canTake_20 0 rfl rfl ?_
    refine g_getR (ci := 9) (j := 7) C dX9_canTake_21 rfl (by decide) rfl inT_X9 (by decide) k_333 rfl rfl rfl ?_
    obtain ⟨g_3, h⟩ := gd_some h
    refine g_getT (b := rt (gR m_2 0 7) 6) (ci := 6) (j := 6) C dX9_canTake_24 rfl (by decide) rfl inT_X6 (by decide) k_390 rfl rfl rfl g_3 ?_
    refine g_iload_n C dX9_canTake_27 1 rfl rfl ?_
    obtain ⟨g_4, h⟩ := gd_some h
    refine g_iald C dX9_canTake_28 g_4 ?_
    refine g_icmp_ge (tgt := 36) C dX9_canTake_29 (by decide) (fun c_5 => ?_) (fun c_5 => ?_)
    · replace h := it_t c_5 h
      refine g_sub [] rfl ?_
      exact t_X9_canTake_36 N Γ C b hE  m_2 h
    · replace h := it_f c_5 h
      refine g_iconst (v := (1 : Int32)) C dX9_canTake_32 (by decide) ?_
      refine g_goto (tgt := 37) C dX9_canTake_33 (by decide) ?_
      obtain rfl := Option.some.inj h
      exact hE 37 _ (show isB (1 : Int32) = true by decide) dX9_canTake_37
theorem c_X9_canTake (N : Nat) (l : Launch) (hst : l.stackTraces = false) (w : Om) (v1 : Int32) (v2 : Int32) (m : Mem) (o : Int32 × Mem) (h : f_X9_canTake N v1 v2 m = some o) : KI l yX9_canTake cX9_canTake 3 (some .boolean) 4 88 w [.ref (oa w 0), .int v1, .int v2] m o.1 o.2 := KZ_of hst (by decide +kernel) RX9 rfl (Nat.le_of_ble_eq_true rfl) (fun Γ hw hl C hE => by
  subst hw; subst hl
  exact t_X9_canTake N Γ C v1 v2 m o h hE)
set_option maxRecDepth 100000 in
set_option maxHeartbeats 4000000 in
theorem t_X9_assign_59 (N : Nat) (Γ : Gc) (C : Cx Γ cX9_assign 3 RX9 (rmK 8 133 3)) (b : (Int32 ⊕ Nat) × Mem) (hE : EI Γ 3 cX9_assign 3 b)  (m : Mem) (h : B_X9_assign_59 N  m = some b) : G Γ 3 2 m 59 [] [] := by
  unfold B_X9_assign_59 at h
  obtain rfl := Option.some.inj h
  exact g_throw (n := 18) C tf_0 dX9_assign_59 dX9_assign_62 dX9_assign_63 dX9_assign_65 dX9_assign_68 (List.mem_of_getElem? (i := 18) rfl) (by decide) (Nat.le_of_ble_eq_true rfl) (by decide) ((hE).2 0 rfl)
set_option maxRecDepth 100000 in
set_option maxHeartbeats 4000000 in
theorem t_X9_assign (N : Nat) (Γ : Gc) (C : Cx Γ cX9_assign 3 RX9 (rmK 8 133 3)) (v1 : Int32) (v2 : Int32) (m : Mem) (b : (Int32 ⊕ Nat) × Mem) (h : f_X9_assign N v1 v2 m = some b) (hE : EI Γ 3 cX9_assign 3 b) : G Γ 3 0 m 0 [(0, .ref (oa (gw Γ) 0)), (1, .int v1), (2, .int v2)] [] := by
  unfold f_X9_assign at h
  refine g_aload_n C dX9_assign_0 0 rfl rfl ?_
  refine g_iload_n C dX9_assign_1 1 rfl rfl ?_
  refine g_iload_n C dX9_assign_2 2 rfl rfl ?_
  rcases x1_some h with ⟨m_1, hk_1, h⟩ | ⟨e_1, m_1, hk_1, rfl⟩
  · refine g_xvV_ok (mc' := 2) (As := [.int v1, .int v2]) (a := 0) (ci := 9) C dX9_assign_3 mf_X9_checkPair k_372 rfl (by decide) ⟨by decide, by decide⟩ rfl rfl (Nat.le_of_ble_eq_true rfl) (by decide) rfl (c_X9_checkPair N (gl Γ) C.2.2.2.2 (gw Γ) v1 v2 m _ hk_1) ?_
    refine g_aload_n C dX9_assign_6 0 rfl rfl ?_
    refine g_getR (ci := 9) (j := 7) C dX9_assign_7 rfl (by decide) rfl inT_X9 (by decide) k_333 rfl rfl rfl ?_
    refine g_aload_n C dX9_assign_10 0 rfl rfl ?_
    refine g_getT (b := 3) (ci := 9) (j := 1) C dX9_assign_11 rfl (by decide) rfl inT_X9 (by decide) k_334 rfl rfl rfl rfl ?_
    refine g_iload_n C dX9_assign_14 1 rfl rfl ?_
    refine g_iload_n C dX9_assign_15 2 rfl rfl ?_
    obtain ⟨r_2, m_2, hk_2, h⟩ := b2_some h
    refine g_sI (As := [.ref (oa (gw Γ) (gR m_1 0 7)), .ref (oa (gw Γ) 3), .int v1, .int v2]) C dX9_assign_16 mf_X9_fits k_391 ⟨by decide, by decide⟩ rfl rfl (Nat.le_of_ble_eq_true rfl) (by decide) (c_X9_fits N (gl Γ) C.2.2.2.2 (gw Γ) (gR m_1 0 7) v1 v2 m_1 _ hk_2) ?_
    refine g_if_ne (tgt := 32) C dX9_assign_19 (by decide) (fun c_11 => ?_) (fun c_11 => ?_)
    · replace h := it_f c_11 h
      refine g_aload_n C dX9_assign_32 0 rfl rfl ?_
      refine g_iload_n C dX9_assign_33 1 rfl rfl ?_
      refine g_iload_n C dX9_assign_34 2 rfl rfl ?_
      obtain ⟨r_3, m_3, hk_3, h⟩ := b2_some h
      refine g_vI (As := [.int v1, .int v2]) (a := 0) (ci := 9) C dX9_assign_35 mf_X9_canTake k_392 rfl (by decide) ⟨by decide, by decide⟩ rfl rfl (Nat.le_of_ble_eq_true rfl) (by decide) rfl (c_X9_canTake N (gl Γ) C.2.2.2.2 (gw Γ) v1 v2 m_2 _ hk_3) ?_
      refine g_if_eq (tgt := 59) C dX9_assign_38 (by decide) (fun c_10 => ?_) (fun c_10 => ?_)
      · replace h := it_t c_10 h
        refine g_sub [] rfl ?_
        exact t_X9_assign_59 N Γ C b hE  m_3 h
      · replace h := it_f c_10 h
        refine g_aload_n C dX9_assign_41 0 rfl rfl ?_
        refine g_getT (b := 3) (ci := 9) (j := 1) C dX9_assign_42 rfl (by decide) rfl inT_X9 (by decide) k_334 rfl rfl rfl rfl ?_
        refine g_iload_n C dX9_assign_45 2 rfl rfl ?_
        obtain ⟨r_4, m_4, hk_4, h⟩ := b2_some h
        refine g_vI (As := [.int v2]) (a := 3) (ci := 7) C dX9_assign_46 mf_X7_reviewsOfProposal k_396 rfl (by decide) ⟨by decide, by decide⟩ rfl rfl (Nat.le_of_ble_eq_true rfl) (by decide) rfl (c_X7_reviewsOfProposal N (gl Γ) C.2.2.2.2 (gw Γ) v2 m_3 _ hk_4) ?_
        refine g_aload_n C dX9_assign_49 0 rfl rfl ?_
        refine g_getR (ci := 9) (j := 7) C dX9_assign_50 rfl (by decide) rfl inT_X9 (by decide) k_333 rfl rfl rfl ?_
        obtain ⟨g_5, h⟩ := gd_some h
        refine g_getI (ci := 6) (j := 14) C dX9_assign_53 rfl (by decide) rfl inT_X6 (by decide) k_400 rfl g_5 ?_
        refine g_icmp_lt (tgt := 69) C dX9_assign_56 (by decide) (fun c_9 => ?_) (fun c_9 => ?_)
        · replace h := it_t c_9 h
          refine g_aload_n C dX9_assign_69 0 rfl rfl ?_
          refine g_getT (b := 6) (ci := 9) (j := 2) C dX9_assign_70 rfl (by decide) rfl inT_X9 (by decide) k_339 rfl rfl rfl rfl ?_
          refine g_aload_n C dX9_assign_73 0 rfl rfl ?_
          refine g_getT (b := 3) (ci := 9) (j := 1) C dX9_assign_74 rfl (by decide) rfl inT_X9 (by decide) k_334 rfl rfl rfl rfl ?_
          obtain ⟨m_6, hk_6, h⟩ := b1_some h
          refine g_vV (As := [.ref (oa (gw Γ) 3)]) (a := 6) (ci := 2) C dX9_assign_77 mf_X2_remember k_378 rfl (by decide) ⟨by decide, by decide⟩ rfl rfl (Nat.le_of_ble_eq_true rfl) (by decide) rfl (c_X2_remember N (gl Γ) C.2.2.2.2 (gw Γ)  m_4 _ hk_6) ?_
          refine g_aload_n C dX9_assign_80 0 rfl rfl ?_
          refine g_getT (b := 3) (ci := 9) (j := 1) C dX9_assign_81 rfl (by decide) rfl inT_X9 (by decide) k_334 rfl rfl rfl rfl ?_
          refine g_iload_n C dX9_assign_84 1 rfl rfl ?_
          refine g_iload_n C dX9_assign_85 2 rfl rfl ?_
          refine g_iconst (v := (-1 : Int32)) C dX9_assign_86 (by decide) ?_
          obtain ⟨m_7, hk_7, h⟩ := b1_some h
          refine g_vV (As := [.int v1, .int v2, .int (-1 : Int32)]) (a := 3) (ci := 7) C dX9_assign_87 mf_X7_put k_401 rfl (by decide) ⟨by decide, by decide⟩ rfl rfl (Nat.le_of_ble_eq_true rfl) (by decide) rfl (c_X7_put N (gl Γ) C.2.2.2.2 (gw Γ) v1 v2 (-1 : Int32) m_6 _ hk_7) ?_
          refine g_aload_n C dX9_assign_90 0 rfl rfl ?_
          refine g_getT (b := 3) (ci := 9) (j := 1) C dX9_assign_91 rfl (by decide) rfl inT_X9 (by decide) k_334 rfl rfl rfl rfl ?_
          refine g_iload_n C dX9_assign_94 2 rfl rfl ?_
          obtain ⟨r_8, m_8, hk_8, h⟩ := b2_some h
          refine g_vI (As := [.int v2]) (a := 3) (ci := 7) C dX9_assign_95 mf_X7_reviewsOfProposal k_396 rfl (by decide) ⟨by decide, by decide⟩ rfl rfl (Nat.le_of_ble_eq_true rfl) (by decide) rfl (c_X7_reviewsOfProposal N (gl Γ) C.2.2.2.2 (gw Γ) v2 m_7 _ hk_8) ?_
          obtain rfl := Option.some.inj h
          exact (hE).1 _ rfl 2 (by decide) 98 _ dX9_assign_98
        · replace h := it_f c_9 h
          refine g_sub [] rfl ?_
          exact t_X9_assign_59 N Γ C b hE  m_4 h
    · replace h := it_t c_11 h
      obtain rfl := Option.some.inj h
      exact g_throw (n := 17) C tf_1 dX9_assign_22 dX9_assign_25 dX9_assign_26 dX9_assign_28 dX9_assign_31 (List.mem_of_getElem? (i := 17) rfl) (by decide) (Nat.le_of_ble_eq_true rfl) (by decide) ((hE).2 1 rfl)
  · exact g_xvV_th (mc' := 2) (As := [.int v1, .int v2]) (a := 0) (ci := 9) C dX9_assign_3 mf_X9_checkPair k_372 rfl (by decide) ⟨by decide, by decide⟩ rfl rfl (Nat.le_of_ble_eq_true rfl) (by decide) rfl (c_X9_checkPair N (gl Γ) C.2.2.2.2 (gw Γ) v1 v2 m _ hk_1) (hE.2 _ rfl)
theorem c_X9_assign (N : Nat) (l : Launch) (hst : l.stackTraces = false) (w : Om) (v1 : Int32) (v2 : Int32) (m : Mem) (o : (Int32 ⊕ Nat) × Mem) (h : f_X9_assign N v1 v2 m = some o) : XI l yX9_assign cX9_assign 3 (some .int) 8 133 3 w [.ref (oa w 0), .int v1, .int v2] m o := XI_of hst (by decide +kernel) RX9 rfl (Nat.le_of_ble_eq_true rfl) (fun Γ hw hl C hE => by
  subst hw; subst hl
  exact t_X9_assign N Γ C v1 v2 m o h hE)
set_option maxRecDepth 100000 in
set_option maxHeartbeats 4000000 in
theorem t_X9_checkReview (N : Nat) (Γ : Gc) (C : Cx Γ cX9_checkReview 3 RX9 (rmK 6 90 1)) (v1 : Int32) (v2 : Int32) (m : Mem) (b : (Unit ⊕ Nat) × Mem) (h : f_X9_checkReview N v1 v2 m = some b) (hE : EV Γ 3 cX9_checkReview 1 b) : G Γ 3 0 m 0 [(0, .ref (oa (gw Γ) 0)), (1, .int v1), (2, .int v2)] [] := by
  unfold f_X9_checkReview at h
  refine g_aload_n C dX9_checkReview_0 0 rfl rfl ?_
  refine g_getT (b := 3) (ci := 9) (j := 1) C dX9_checkReview_1 rfl (by decide) rfl inT_X9 (by decide) k_334 rfl rfl rfl rfl ?_
  refine g_iload_n C dX9_checkReview_4 1 rfl rfl ?_
  refine g_iload_n C dX9_checkReview_5 2 rfl rfl ?_
  obtain ⟨r_1, m_1, hk_1, h⟩ := b2_some h
  refine g_vI (As := [.int v1, .int v2]) (a := 3) (ci := 7) C dX9_checkReview_6 mf_X7_hasReview k_377 rfl (by decide) ⟨by decide, by decide⟩ rfl rfl (Nat.le_of_ble_eq_true rfl) (by decide) rfl (c_X7_hasReview N (gl Γ) C.2.2.2.2 (gw Γ) v1 v2 m _ hk_1) ?_
  refine g_if_ne (tgt := 23) C dX9_checkReview_9 (by decide) (fun c_2 => ?_) (fun c_2 => ?_)
  · replace h := it_f c_2 h
    obtain rfl := Option.some.inj h
    exact (hE).1 _ rfl 0 (by decide) 23 _ dX9_checkReview_23
  · replace h := it_t c_2 h
    obtain rfl := Option.some.inj h
    exact g_throwNW (n := 19) C  dX9_checkReview_12 dX9_checkReview_15 dX9_checkReview_16 dX9_checkReview_19 dX9_checkReview_22 (List.mem_of_getElem? (i := 19) rfl) (by decide) (Nat.le_of_ble_eq_true rfl) (by decide) ((hE).2 3 rfl)
theorem c_X9_checkReview (N : Nat) (l : Launch) (hst : l.stackTraces = false) (w : Om) (v1 : Int32) (v2 : Int32) (m : Mem) (o : (Unit ⊕ Nat) × Mem) (h : f_X9_checkReview N v1 v2 m = some o) : XV l yX9_checkReview cX9_checkReview 3 none 6 90 1 w [.ref (oa w 0), .int v1, .int v2] m o := XV_of hst (by decide +kernel) RX9 rfl (Nat.le_of_ble_eq_true rfl) (fun Γ hw hl C hE => by
  subst hw; subst hl
  exact t_X9_checkReview N Γ C v1 v2 m o h hE)
set_option maxRecDepth 100000 in
set_option maxHeartbeats 4000000 in
theorem t_X9_unassign (N : Nat) (Γ : Gc) (C : Cx Γ cX9_unassign 4 RX9 (rmK 8 133 3)) (v1 : Int32) (v2 : Int32) (m : Mem) (b : (Int32 ⊕ Nat) × Mem) (h : f_X9_unassign N v1 v2 m = some b) (hE : EI Γ 4 cX9_unassign 3 b) : G Γ 4 0 m 0 [(0, .ref (oa (gw Γ) 0)), (1, .int v1), (2, .int v2)] [] := by
  unfold f_X9_unassign at h
  refine g_aload_n C dX9_unassign_0 0 rfl rfl ?_
  refine g_iload_n C dX9_unassign_1 1 rfl rfl ?_
  refine g_iload_n C dX9_unassign_2 2 rfl rfl ?_
  rcases x1_some h with ⟨m_1, hk_1, h⟩ | ⟨e_1, m_1, hk_1, rfl⟩
  · refine g_xvV_ok (mc' := 2) (As := [.int v1, .int v2]) (a := 0) (ci := 9) C dX9_unassign_3 mf_X9_checkPair k_372 rfl (by decide) ⟨by decide, by decide⟩ rfl rfl (Nat.le_of_ble_eq_true rfl) (by decide) rfl (c_X9_checkPair N (gl Γ) C.2.2.2.2 (gw Γ) v1 v2 m _ hk_1) ?_
    refine g_aload_n C dX9_unassign_6 0 rfl rfl ?_
    refine g_iload_n C dX9_unassign_7 1 rfl rfl ?_
    refine g_iload_n C dX9_unassign_8 2 rfl rfl ?_
    rcases x1_some h with ⟨m_2, hk_2, h⟩ | ⟨e_2, m_2, hk_2, rfl⟩
    · refine g_xvV_ok (mc' := 1) (As := [.int v1, .int v2]) (a := 0) (ci := 9) C dX9_unassign_9 mf_X9_checkReview k_405 rfl (by decide) ⟨by decide, by decide⟩ rfl rfl (Nat.le_of_ble_eq_true rfl) (by decide) rfl (c_X9_checkReview N (gl Γ) C.2.2.2.2 (gw Γ) v1 v2 m_1 _ hk_2) ?_
      refine g_aload_n C dX9_unassign_12 0 rfl rfl ?_
      refine g_getT (b := 6) (ci := 9) (j := 2) C dX9_unassign_13 rfl (by decide) rfl inT_X9 (by decide) k_339 rfl rfl rfl rfl ?_
      refine g_aload_n C dX9_unassign_16 0 rfl rfl ?_
      refine g_getT (b := 3) (ci := 9) (j := 1) C dX9_unassign_17 rfl (by decide) rfl inT_X9 (by decide) k_334 rfl rfl rfl rfl ?_
      obtain ⟨m_3, hk_3, h⟩ := b1_some h
      refine g_vV (As := [.ref (oa (gw Γ) 3)]) (a := 6) (ci := 2) C dX9_unassign_20 mf_X2_remember k_378 rfl (by decide) ⟨by decide, by decide⟩ rfl rfl (Nat.le_of_ble_eq_true rfl) (by decide) rfl (c_X2_remember N (gl Γ) C.2.2.2.2 (gw Γ)  m_2 _ hk_3) ?_
      refine g_aload_n C dX9_unassign_23 0 rfl rfl ?_
      refine g_getT (b := 3) (ci := 9) (j := 1) C dX9_unassign_24 rfl (by decide) rfl inT_X9 (by decide) k_334 rfl rfl rfl rfl ?_
      refine g_iload_n C dX9_unassign_27 1 rfl rfl ?_
      refine g_iload_n C dX9_unassign_28 2 rfl rfl ?_
      obtain ⟨r_4, m_4, hk_4, h⟩ := b2_some h
      refine g_vI (As := [.int v1, .int v2]) (a := 3) (ci := 7) C dX9_unassign_29 mf_X7_scoreAt k_409 rfl (by decide) ⟨by decide, by decide⟩ rfl rfl (Nat.le_of_ble_eq_true rfl) (by decide) rfl (c_X7_scoreAt N (gl Γ) C.2.2.2.2 (gw Γ) v1 v2 m_3 _ hk_4) ?_
      refine g_istore_n (lv' := [(3, .int r_4), (0, .ref (oa (gw Γ) 0)), (1, .int v1), (2, .int v2)]) C dX9_unassign_32 rfl (by decide) rfl ?_
      refine g_aload_n C dX9_unassign_33 1 rfl rfl ?_
      refine g_getT (b := 3) (ci := 9) (j := 1) C dX9_unassign_34 rfl (by decide) rfl inT_X9 (by decide) k_334 rfl rfl rfl rfl ?_
      refine g_iload_n C dX9_unassign_37 2 rfl rfl ?_
      refine g_iload_n C dX9_unassign_38 3 rfl rfl ?_
      refine g_iconst (v := (0 : Int32)) C dX9_unassign_39 (by decide) ?_
      obtain ⟨m_5, hk_5, h⟩ := b1_some h
      refine g_vV (As := [.int v1, .int v2, .int (0 : Int32)]) (a := 3) (ci := 7) C dX9_unassign_40 mf_X7_put k_401 rfl (by decide) ⟨by decide, by decide⟩ rfl rfl (Nat.le_of_ble_eq_true rfl) (by decide) rfl (c_X7_put N (gl Γ) C.2.2.2.2 (gw Γ) v1 v2 (0 : Int32) m_4 _ hk_5) ?_
      refine g_iload_n C dX9_unassign_43 0 rfl rfl ?_
      obtain rfl := Option.some.inj h
      exact (hE).1 _ rfl 3 (by decide) 44 _ dX9_unassign_44
    · exact g_xvV_th (mc' := 1) (As := [.int v1, .int v2]) (a := 0) (ci := 9) C dX9_unassign_9 mf_X9_checkReview k_405 rfl (by decide) ⟨by decide, by decide⟩ rfl rfl (Nat.le_of_ble_eq_true rfl) (by decide) rfl (c_X9_checkReview N (gl Γ) C.2.2.2.2 (gw Γ) v1 v2 m_1 _ hk_2) (hE.2 _ rfl)
  · exact g_xvV_th (mc' := 2) (As := [.int v1, .int v2]) (a := 0) (ci := 9) C dX9_unassign_3 mf_X9_checkPair k_372 rfl (by decide) ⟨by decide, by decide⟩ rfl rfl (Nat.le_of_ble_eq_true rfl) (by decide) rfl (c_X9_checkPair N (gl Γ) C.2.2.2.2 (gw Γ) v1 v2 m _ hk_1) (hE.2 _ rfl)
theorem c_X9_unassign (N : Nat) (l : Launch) (hst : l.stackTraces = false) (w : Om) (v1 : Int32) (v2 : Int32) (m : Mem) (o : (Int32 ⊕ Nat) × Mem) (h : f_X9_unassign N v1 v2 m = some o) : XI l yX9_unassign cX9_unassign 4 (some .int) 8 133 3 w [.ref (oa w 0), .int v1, .int v2] m o := XI_of hst (by decide +kernel) RX9 rfl (Nat.le_of_ble_eq_true rfl) (fun Γ hw hl C hE => by
  subst hw; subst hl
  exact t_X9_unassign N Γ C v1 v2 m o h hE)
set_option maxRecDepth 100000 in
set_option maxHeartbeats 4000000 in
theorem t_X9_isBetterChoice (N : Nat) (Γ : Gc) (C : Cx Γ cX9_isBetterChoice 6 RX9 (rmK 4 88 0)) (v1 : Int32) (v2 : Int32) (v3 : Int32) (m : Mem) (b : Int32 × Mem) (h : f_X9_isBetterChoice N v1 v2 v3 m = some b) (hE : EZn Γ 6 cX9_isBetterChoice b) : G Γ 6 0 m 0 [(0, .ref (oa (gw Γ) 0)), (1, .int v1), (2, .int v2), (3, .int v3)] [] := by
  unfold f_X9_isBetterChoice at h
  refine g_aload_n C dX9_isBetterChoice_0 0 rfl rfl ?_
  refine g_getR (ci := 9) (j := 7) C dX9_isBetterChoice_1 rfl (by decide) rfl inT_X9 (by decide) k_333 rfl rfl rfl ?_
  refine g_iload_n C dX9_isBetterChoice_4 1 rfl rfl ?_
  refine g_iload_n C dX9_isBetterChoice_5 3 rfl rfl ?_
  obtain ⟨g_1, h⟩ := gd_some h
  obtain ⟨r_2, m_2, hk_2, h⟩ := b2_some h
  refine g_vI (As := [.int v1, .int v3]) (a := (gR m 0 7)) (ci := 6) C dX9_isBetterChoice_6 mf_X6_matchOf k_376 rfl (by decide) ⟨by decide, by decide⟩ rfl rfl (Nat.le_of_ble_eq_true rfl) (by decide) g_1 (c_X6_matchOf N (gl Γ) C.2.2.2.2 (gw Γ) (gR m 0 7) v1 v3 m _ hk_2) ?_
  refine g_istore (lv' := [(4, .int r_2), (0, .ref (oa (gw Γ) 0)), (1, .int v1), (2, .int v2), (3, .int v3)]) C dX9_isBetterChoice_9 (by decide) rfl ?_
  refine g_aload_n C dX9_isBetterChoice_11 1 rfl rfl ?_
  refine g_getR (ci := 9) (j := 7) C dX9_isBetterChoice_12 rfl (by decide) rfl inT_X9 (by decide) k_333 rfl rfl rfl ?_
  refine g_iload_n C dX9_isBetterChoice_15 3 rfl rfl ?_
  refine g_iload_n C dX9_isBetterChoice_16 4 rfl rfl ?_
  obtain ⟨g_3, h⟩ := gd_some h
  obtain ⟨r_4, m_4, hk_4, h⟩ := b2_some h
  refine g_vI (As := [.int v2, .int v3]) (a := (gR m_2 0 7)) (ci := 6) C dX9_isBetterChoice_17 mf_X6_matchOf k_376 rfl (by decide) ⟨by decide, by decide⟩ rfl rfl (Nat.le_of_ble_eq_true rfl) (by decide) g_3 (c_X6_matchOf N (gl Γ) C.2.2.2.2 (gw Γ) (gR m_2 0 7) v2 v3 m_2 _ hk_4) ?_
  refine g_istore (lv' := [(5, .int r_4), (4, .int r_2), (0, .ref (oa (gw Γ) 0)), (1, .int v1), (2, .int v2), (3, .int v3)]) C dX9_isBetterChoice_20 (by decide) rfl ?_
  refine g_iload C dX9_isBetterChoice_22 1 rfl ?_
  refine g_iload C dX9_isBetterChoice_24 0 rfl ?_
  refine g_icmp_eq (tgt := 42) C dX9_isBetterChoice_26 (by decide) (fun c_9 => ?_) (fun c_9 => ?_)
  · replace h := it_t c_9 h
    refine g_aload_n C dX9_isBetterChoice_42 2 rfl rfl ?_
    refine g_getT (b := 3) (ci := 9) (j := 1) C dX9_isBetterChoice_43 rfl (by decide) rfl inT_X9 (by decide) k_334 rfl rfl rfl rfl ?_
    refine g_iload_n C dX9_isBetterChoice_46 3 rfl rfl ?_
    obtain ⟨r_5, m_5, hk_5, h⟩ := b2_some h
    refine g_vI (As := [.int v1]) (a := 3) (ci := 7) C dX9_isBetterChoice_47 mf_X7_reviewsOfReviewer k_386 rfl (by decide) ⟨by decide, by decide⟩ rfl rfl (Nat.le_of_ble_eq_true rfl) (by decide) rfl (c_X7_reviewsOfReviewer N (gl Γ) C.2.2.2.2 (gw Γ) v1 m_4 _ hk_5) ?_
    refine g_aload_n C dX9_isBetterChoice_50 2 rfl rfl ?_
    refine g_getT (b := 3) (ci := 9) (j := 1) C dX9_isBetterChoice_51 rfl (by decide) rfl inT_X9 (by decide) k_334 rfl rfl rfl rfl ?_
    refine g_iload_n C dX9_isBetterChoice_54 4 rfl rfl ?_
    obtain ⟨r_6, m_6, hk_6, h⟩ := b2_some h
    refine g_vI (As := [.int v2]) (a := 3) (ci := 7) C dX9_isBetterChoice_55 mf_X7_reviewsOfReviewer k_386 rfl (by decide) ⟨by decide, by decide⟩ rfl rfl (Nat.le_of_ble_eq_true rfl) (by decide) rfl (c_X7_reviewsOfReviewer N (gl Γ) C.2.2.2.2 (gw Γ) v2 m_5 _ hk_6) ?_
    refine g_icmp_ge (tgt := 65) C dX9_isBetterChoice_58 (by decide) (fun c_7 => ?_) (fun c_7 => ?_)
    · replace h := it_t c_7 h
      refine g_iconst (v := (0 : Int32)) C dX9_isBetterChoice_65 (by decide) ?_
      obtain rfl := Option.some.inj h
      exact hE 66 _ (show isB (0 : Int32) = true by decide) dX9_isBetterChoice_66
    · replace h := it_f c_7 h
      refine g_iconst (v := (1 : Int32)) C dX9_isBetterChoice_61 (by decide) ?_
      refine g_goto (tgt := 66) C dX9_isBetterChoice_62 (by decide) ?_
      obtain rfl := Option.some.inj h
      exact hE 66 _ (show isB (1 : Int32) = true by decide) dX9_isBetterChoice_66
  · replace h := it_f c_9 h
    refine g_iload C dX9_isBetterChoice_29 1 rfl ?_
    refine g_iload C dX9_isBetterChoice_31 0 rfl ?_
    refine g_icmp_le (tgt := 40) C dX9_isBetterChoice_33 (by decide) (fun c_8 => ?_) (fun c_8 => ?_)
    · replace h := it_t c_8 h
      refine g_iconst (v := (0 : Int32)) C dX9_isBetterChoice_40 (by decide) ?_
      obtain rfl := Option.some.inj h
      exact hE 41 _ (show isB (0 : Int32) = true by decide) dX9_isBetterChoice_41
    · replace h := it_f c_8 h
      refine g_iconst (v := (1 : Int32)) C dX9_isBetterChoice_36 (by decide) ?_
      refine g_goto (tgt := 41) C dX9_isBetterChoice_37 (by decide) ?_
      obtain rfl := Option.some.inj h
      exact hE 41 _ (show isB (1 : Int32) = true by decide) dX9_isBetterChoice_41
theorem c_X9_isBetterChoice (N : Nat) (l : Launch) (hst : l.stackTraces = false) (w : Om) (v1 : Int32) (v2 : Int32) (v3 : Int32) (m : Mem) (o : Int32 × Mem) (h : f_X9_isBetterChoice N v1 v2 v3 m = some o) : KI l yX9_isBetterChoice cX9_isBetterChoice 6 (some .boolean) 4 88 w [.ref (oa w 0), .int v1, .int v2, .int v3] m o.1 o.2 := KZ_of hst (by decide +kernel) RX9 rfl (Nat.le_of_ble_eq_true rfl) (fun Γ hw hl C hE => by
  subst hw; subst hl
  exact t_X9_isBetterChoice N Γ C v1 v2 v3 m o h hE)
def Ex_X9_addReview_4 (Γ : Gc) (cs : Nat) (b : Int32 × Int32 × Mem) : Prop := (∀ (y1 : Int32) (y2 : Int32) (m' : Mem), b = (y1, y2, m') → G Γ 4 cs m' 63 [(0, .ref (oa (gw Γ) 0)), (1, .int y1), (2, .int y2)] [])
set_option maxRecDepth 100000 in
set_option maxHeartbeats 4000000 in
theorem t_X9_addReview_55 (N : Nat) (Γ : Gc) (C : Cx Γ cX9_addReview 4 RX9 (rmK 5 113 0)) (rc : Int32 → Int32 → Int32 → Mem → Option (Int32 × Int32 × Mem)) (b : Int32 × Int32 × Mem) (hE : Ex_X9_addReview_4 Γ 0 b) (hrec : ∀ (v1 : Int32) (v2 : Int32) (v3 : Int32) (m : Mem) (b : Int32 × Int32 × Mem), rc v1 v2 v3 m = some b → Ex_X9_addReview_4 Γ 0 b → G Γ 4 0 m 4 [(0, .ref (oa (gw Γ) 0)), (1, .int v1), (2, .int v2), (3, .int v3)] []) (v1 : Int32) (v3 : Int32) (m : Mem) (h : B_X9_addReview_55 N rc v1 v3 m = some b) : G Γ 4 0 m 55 [(0, .ref (oa (gw Γ) 0)), (1, .int v1), (3, .int v3)] [] := by
  unfold B_X9_addReview_55 at h
  refine g_iload_n C dX9_addReview_55 2 rfl rfl ?_
  refine g_istore_n (lv' := [(2, .int v3), (0, .ref (oa (gw Γ) 0)), (1, .int v1), (3, .int v3)]) C dX9_addReview_56 rfl (by decide) rfl ?_
  refine g_iinc (q := 3) (v := v3 + (1 : Int32)) (lv' := [(3, .int (v3 + (1 : Int32))), (2, .int v3), (0, .ref (oa (gw Γ) 0)), (1, .int v1)]) C dX9_addReview_57 rfl rfl (by decide) rfl ?_
  refine g_goto (tgt := 4) C dX9_addReview_60 (by decide) ?_
  refine g_sub [2, 3, 1, 0] rfl ?_
  exact hrec v1 v3 (v3 + (1 : Int32)) m b h hE
set_option maxRecDepth 100000 in
set_option maxHeartbeats 4000000 in
theorem t_X9_addReview_4 (N : Nat) (Γ : Gc) (C : Cx Γ cX9_addReview 4 RX9 (rmK 5 113 0)) (rc : Int32 → Int32 → Int32 → Mem → Option (Int32 × Int32 × Mem)) (b : Int32 × Int32 × Mem) (hE : Ex_X9_addReview_4 Γ 0 b) (hrec : ∀ (v1 : Int32) (v2 : Int32) (v3 : Int32) (m : Mem) (b : Int32 × Int32 × Mem), rc v1 v2 v3 m = some b → Ex_X9_addReview_4 Γ 0 b → G Γ 4 0 m 4 [(0, .ref (oa (gw Γ) 0)), (1, .int v1), (2, .int v2), (3, .int v3)] []) (v1 : Int32) (v2 : Int32) (v3 : Int32) (m : Mem) (h : T_X9_addReview_4 N rc v1 v2 v3 m = some b) : G Γ 4 0 m 4 [(0, .ref (oa (gw Γ) 0)), (1, .int v1), (2, .int v2), (3, .int v3)] [] := by
  unfold T_X9_addReview_4 at h
  refine g_iload_n C dX9_addReview_4 3 rfl rfl ?_
  refine g_aload_n C dX9_addReview_5 0 rfl rfl ?_
  refine g_getR (ci := 9) (j := 7) C dX9_addReview_6 rfl (by decide) rfl inT_X9 (by decide) k_333 rfl rfl rfl ?_
  obtain ⟨g_1, h⟩ := gd_some h
  refine g_getI (ci := 6) (j := 1) C dX9_addReview_9 rfl (by decide) rfl inT_X6 (by decide) k_349 rfl g_1 ?_
  refine g_icmp_ge (tgt := 63) C dX9_addReview_12 (by decide) (fun c_9 => ?_) (fun c_9 => ?_)
  · replace h := it_t c_9 h
    obtain rfl := Option.some.inj h
    refine g_sub [0, 1, 2] rfl ?_
    exact hE _ _ _ rfl
  · replace h := it_f c_9 h
    refine g_aload_n C dX9_addReview_15 0 rfl rfl ?_
    refine g_getR (ci := 9) (j := 7) C dX9_addReview_16 rfl (by decide) rfl inT_X9 (by decide) k_333 rfl rfl rfl ?_
    refine g_aload_n C dX9_addReview_19 0 rfl rfl ?_
    refine g_getT (b := 3) (ci := 9) (j := 1) C dX9_addReview_20 rfl (by decide) rfl inT_X9 (by decide) k_334 rfl rfl rfl rfl ?_
    refine g_iload_n C dX9_addReview_23 3 rfl rfl ?_
    refine g_iload_n C dX9_addReview_24 1 rfl rfl ?_
    obtain ⟨r_2, m_2, hk_2, h⟩ := b2_some h
    refine g_sI (As := [.ref (oa (gw Γ) (gR m 0 7)), .ref (oa (gw Γ) 3), .int v3, .int v1]) C dX9_addReview_25 mf_X9_fits k_391 ⟨by decide, by decide⟩ rfl rfl (Nat.le_of_ble_eq_true rfl) (by decide) (c_X9_fits N (gl Γ) C.2.2.2.2 (gw Γ) (gR m 0 7) v3 v1 m _ hk_2) ?_
    refine g_if_eq (tgt := 57) C dX9_addReview_28 (by decide) (fun c_8 => ?_) (fun c_8 => ?_)
    · replace h := it_t c_8 h
      refine g_iinc (q := 3) (v := v3 + (1 : Int32)) (lv' := [(3, .int (v3 + (1 : Int32))), (0, .ref (oa (gw Γ) 0)), (1, .int v1), (2, .int v2)]) C dX9_addReview_57 rfl rfl (by decide) rfl ?_
      refine g_goto (tgt := 4) C dX9_addReview_60 (by decide) ?_
      refine g_sub [1, 2, 3, 0] rfl ?_
      exact hrec v1 v2 (v3 + (1 : Int32)) m_2 b h hE
    · replace h := it_f c_8 h
      refine g_aload_n C dX9_addReview_31 0 rfl rfl ?_
      refine g_iload_n C dX9_addReview_32 3 rfl rfl ?_
      refine g_iload_n C dX9_addReview_33 1 rfl rfl ?_
      obtain ⟨r_3, m_3, hk_3, h⟩ := b2_some h
      refine g_vI (As := [.int v3, .int v1]) (a := 0) (ci := 9) C dX9_addReview_34 mf_X9_canTake k_392 rfl (by decide) ⟨by decide, by decide⟩ rfl rfl (Nat.le_of_ble_eq_true rfl) (by decide) rfl (c_X9_canTake N (gl Γ) C.2.2.2.2 (gw Γ) v3 v1 m_2 _ hk_3) ?_
      refine g_if_eq (tgt := 57) C dX9_addReview_37 (by decide) (fun c_7 => ?_) (fun c_7 => ?_)
      · replace h := it_t c_7 h
        refine g_iinc (q := 3) (v := v3 + (1 : Int32)) (lv' := [(3, .int (v3 + (1 : Int32))), (0, .ref (oa (gw Γ) 0)), (1, .int v1), (2, .int v2)]) C dX9_addReview_57 rfl rfl (by decide) rfl ?_
        refine g_goto (tgt := 4) C dX9_addReview_60 (by decide) ?_
        refine g_sub [1, 2, 3, 0] rfl ?_
        exact hrec v1 v2 (v3 + (1 : Int32)) m_3 b h hE
      · replace h := it_f c_7 h
        refine g_iload_n C dX9_addReview_40 2 rfl rfl ?_
        refine g_iconst (v := (-1 : Int32)) C dX9_addReview_41 (by decide) ?_
        refine g_icmp_eq (tgt := 55) C dX9_addReview_42 (by decide) (fun c_6 => ?_) (fun c_6 => ?_)
        · replace h := it_t c_6 h
          refine g_sub [0, 1, 3] rfl ?_
          exact t_X9_addReview_55 N Γ C rc b hE hrec v1 v3 m_3 h
        · replace h := it_f c_6 h
          refine g_aload_n C dX9_addReview_45 0 rfl rfl ?_
          refine g_iload_n C dX9_addReview_46 3 rfl rfl ?_
          refine g_iload_n C dX9_addReview_47 2 rfl rfl ?_
          refine g_iload_n C dX9_addReview_48 1 rfl rfl ?_
          obtain ⟨r_4, m_4, hk_4, h⟩ := b2_some h
          refine g_vI (As := [.int v3, .int v2, .int v1]) (a := 0) (ci := 9) C dX9_addReview_49 mf_X9_isBetterChoice k_410 rfl (by decide) ⟨by decide, by decide⟩ rfl rfl (Nat.le_of_ble_eq_true rfl) (by decide) rfl (c_X9_isBetterChoice N (gl Γ) C.2.2.2.2 (gw Γ) v3 v2 v1 m_3 _ hk_4) ?_
          refine g_if_eq (tgt := 57) C dX9_addReview_52 (by decide) (fun c_5 => ?_) (fun c_5 => ?_)
          · replace h := it_t c_5 h
            refine g_iinc (q := 3) (v := v3 + (1 : Int32)) (lv' := [(3, .int (v3 + (1 : Int32))), (0, .ref (oa (gw Γ) 0)), (1, .int v1), (2, .int v2)]) C dX9_addReview_57 rfl rfl (by decide) rfl ?_
            refine g_goto (tgt := 4) C dX9_addReview_60 (by decide) ?_
            refine g_sub [1, 2, 3, 0] rfl ?_
            exact hrec v1 v2 (v3 + (1 : Int32)) m_4 b h hE
          · replace h := it_f c_5 h
            refine g_sub [0, 1, 3] rfl ?_
            exact t_X9_addReview_55 N Γ C rc b hE hrec v1 v3 m_4 h
theorem lt_X9_addReview_4 (N : Nat) (Γ : Gc) (C : Cx Γ cX9_addReview 4 RX9 (rmK 5 113 0)) : ∀ (n : Nat) (v1 : Int32) (v2 : Int32) (v3 : Int32) (m : Mem) (b : Int32 × Int32 × Mem), L_X9_addReview_4 N n v1 v2 v3 m = some b → Ex_X9_addReview_4 Γ 0 b → G Γ 4 0 m 4 [(0, .ref (oa (gw Γ) 0)), (1, .int v1), (2, .int v2), (3, .int v3)] [] := by
  intro n
  induction n with
  | zero =>
    intro v1 v2 v3 m b h
    have h9 : (none : Option (Int32 × Int32 × Mem)) = some b := h
    cases h9
  | succ n ih => intro v1 v2 v3 m b h hE; exact t_X9_addReview_4 N Γ C (L_X9_addReview_4 N n) b hE ih v1 v2 v3 m h
set_option maxRecDepth 100000 in
set_option maxHeartbeats 4000000 in
theorem t_X9_addReview (N : Nat) (Γ : Gc) (C : Cx Γ cX9_addReview 4 RX9 (rmK 5 113 0)) (v1 : Int32) (m : Mem) (b : Int32 × Mem) (h : f_X9_addReview N v1 m = some b) (hE : EZn Γ 4 cX9_addReview b) : G Γ 4 0 m 0 [(0, .ref (oa (gw Γ) 0)), (1, .int v1)] [] := by
  unfold f_X9_addReview at h
  refine g_iconst (v := (-1 : Int32)) C dX9_addReview_0 (by decide) ?_
  refine g_istore_n (lv' := [(2, .int (-1 : Int32)), (0, .ref (oa (gw Γ) 0)), (1, .int v1)]) C dX9_addReview_1 rfl (by decide) rfl ?_
  refine g_iconst (v := (0 : Int32)) C dX9_addReview_2 (by decide) ?_
  refine g_istore_n (lv' := [(3, .int (0 : Int32)), (2, .int (-1 : Int32)), (0, .ref (oa (gw Γ) 0)), (1, .int v1)]) C dX9_addReview_3 rfl (by decide) rfl ?_
  obtain ⟨v1_10, v2_10, m_10, hx, h⟩ := l3_some h
  refine g_sub [2, 3, 1, 0] rfl ?_
  refine lt_X9_addReview_4 N Γ C N v1 (-1 : Int32) (0 : Int32) m _ hx ?_
  intro z1 z2 m9 e9
  cases e9
  refine g_iload_n C dX9_addReview_63 2 rfl rfl ?_
  refine g_iconst (v := (-1 : Int32)) C dX9_addReview_64 (by decide) ?_
  refine g_icmp_ne (tgt := 70) C dX9_addReview_65 (by decide) (fun c_12 => ?_) (fun c_12 => ?_)
  · replace h := it_f c_12 h
    refine g_aload_n C dX9_addReview_70 0 rfl rfl ?_
    refine g_getT (b := 3) (ci := 9) (j := 1) C dX9_addReview_71 rfl (by decide) rfl inT_X9 (by decide) k_334 rfl rfl rfl rfl ?_
    refine g_iload_n C dX9_addReview_74 2 rfl rfl ?_
    refine g_iload_n C dX9_addReview_75 1 rfl rfl ?_
    refine g_iconst (v := (-1 : Int32)) C dX9_addReview_76 (by decide) ?_
    obtain ⟨m_11, hk_11, h⟩ := b1_some h
    refine g_vV (As := [.int v2_10, .int v1_10, .int (-1 : Int32)]) (a := 3) (ci := 7) C dX9_addReview_77 mf_X7_put k_401 rfl (by decide) ⟨by decide, by decide⟩ rfl rfl (Nat.le_of_ble_eq_true rfl) (by decide) rfl (c_X7_put N (gl Γ) C.2.2.2.2 (gw Γ) v2_10 v1_10 (-1 : Int32) m_10 _ hk_11) ?_
    refine g_iconst (v := (1 : Int32)) C dX9_addReview_80 (by decide) ?_
    obtain rfl := Option.some.inj h
    exact hE 81 _ (show isB (1 : Int32) = true by decide) dX9_addReview_81
  · replace h := it_t c_12 h
    refine g_iconst (v := (0 : Int32)) C dX9_addReview_68 (by decide) ?_
    obtain rfl := Option.some.inj h
    exact hE 69 _ (show isB (0 : Int32) = true by decide) dX9_addReview_69
theorem c_X9_addReview (N : Nat) (l : Launch) (hst : l.stackTraces = false) (w : Om) (v1 : Int32) (m : Mem) (o : Int32 × Mem) (h : f_X9_addReview N v1 m = some o) : KI l yX9_addReview cX9_addReview 4 (some .boolean) 5 113 w [.ref (oa w 0), .int v1] m o.1 o.2 := KZ_of hst (by decide +kernel) RX9 rfl (Nat.le_of_ble_eq_true rfl) (fun Γ hw hl C hE => by
  subst hw; subst hl
  exact t_X9_addReview N Γ C v1 m o h hE)
set_option maxRecDepth 100000 in
set_option maxHeartbeats 4000000 in
theorem t_X9_checkPanel_15 (N : Nat) (Γ : Gc) (C : Cx Γ cX9_checkPanel 2 RX9 (rmK 6 90 1)) (b : (Unit ⊕ Nat) × Mem) (hE : EV Γ 2 cX9_checkPanel 1 b)  (m : Mem) (h : B_X9_checkPanel_15 N  m = some b) : G Γ 2 0 m 15 [] [] := by
  unfold B_X9_checkPanel_15 at h
  obtain rfl := Option.some.inj h
  exact g_throwW (n := 20) C tf_2 dX9_checkPanel_15 dX9_checkPanel_18 dX9_checkPanel_19 dX9_checkPanel_22 dX9_checkPanel_25 (List.mem_of_getElem? (i := 20) rfl) (by decide) (Nat.le_of_ble_eq_true rfl) (by decide) ((hE).2 2 rfl)
set_option maxRecDepth 100000 in
set_option maxHeartbeats 4000000 in
theorem t_X9_checkPanel (N : Nat) (Γ : Gc) (C : Cx Γ cX9_checkPanel 2 RX9 (rmK 6 90 1)) (v1 : Int32) (m : Mem) (b : (Unit ⊕ Nat) × Mem) (h : f_X9_checkPanel N v1 m = some b) (hE : EV Γ 2 cX9_checkPanel 1 b) : G Γ 2 0 m 0 [(0, .ref (oa (gw Γ) 0)), (1, .int v1)] [] := by
  unfold f_X9_checkPanel at h
  refine g_iload_n C dX9_checkPanel_0 1 rfl rfl ?_
  refine g_if_lt (tgt := 15) C dX9_checkPanel_1 (by decide) (fun c_3 => ?_) (fun c_3 => ?_)
  · replace h := it_t c_3 h
    refine g_sub [] rfl ?_
    exact t_X9_checkPanel_15 N Γ C b hE  m h
  · replace h := it_f c_3 h
    refine g_iload_n C dX9_checkPanel_4 1 rfl rfl ?_
    refine g_aload_n C dX9_checkPanel_5 0 rfl rfl ?_
    refine g_getR (ci := 9) (j := 7) C dX9_checkPanel_6 rfl (by decide) rfl inT_X9 (by decide) k_333 rfl rfl rfl ?_
    obtain ⟨g_1, h⟩ := gd_some h
    refine g_getI (ci := 6) (j := 0) C dX9_checkPanel_9 rfl (by decide) rfl inT_X6 (by decide) k_348 rfl g_1 ?_
    refine g_icmp_lt (tgt := 26) C dX9_checkPanel_12 (by decide) (fun c_2 => ?_) (fun c_2 => ?_)
    · replace h := it_t c_2 h
      obtain rfl := Option.some.inj h
      exact (hE).1 _ rfl 0 (by decide) 26 _ dX9_checkPanel_26
    · replace h := it_f c_2 h
      refine g_sub [] rfl ?_
      exact t_X9_checkPanel_15 N Γ C b hE  m h
theorem c_X9_checkPanel (N : Nat) (l : Launch) (hst : l.stackTraces = false) (w : Om) (v1 : Int32) (m : Mem) (o : (Unit ⊕ Nat) × Mem) (h : f_X9_checkPanel N v1 m = some o) : XV l yX9_checkPanel cX9_checkPanel 2 none 6 90 1 w [.ref (oa w 0), .int v1] m o := XV_of hst (by decide +kernel) RX9 rfl (Nat.le_of_ble_eq_true rfl) (fun Γ hw hl C hE => by
  subst hw; subst hl
  exact t_X9_checkPanel N Γ C v1 m o h hE)
def Ex_X9_assignAll_34 (Γ : Gc) (cs : Nat) (b : Int32 × Int32 × Int32 × Mem) : Prop := (∀ (y1 : Int32) (y2 : Int32) (y3 : Int32) (m' : Mem), b = (y1, y2, y3, m') → G Γ 5 cs m' 91 [(0, .ref (oa (gw Γ) 0)), (1, .int y1), (2, .int y2), (3, .int y3)] [])
set_option maxRecDepth 100000 in
set_option maxHeartbeats 4000000 in
theorem t_X9_assignAll_34 (N : Nat) (Γ : Gc) (C : Cx Γ cX9_assignAll 5 RX9 (rmK 7 136 1)) (rc : Int32 → Int32 → Int32 → Int32 → Mem → Option (Int32 × Int32 × Int32 × Mem)) (b : Int32 × Int32 × Int32 × Mem) (hE : Ex_X9_assignAll_34 Γ 1 b) (hrec : ∀ (v1 : Int32) (v2 : Int32) (v3 : Int32) (v4 : Int32) (m : Mem) (b : Int32 × Int32 × Int32 × Mem), rc v1 v2 v3 v4 m = some b → Ex_X9_assignAll_34 Γ 1 b → G Γ 5 1 m 34 [(0, .ref (oa (gw Γ) 0)), (1, .int v1), (2, .int v2), (3, .int v3), (4, .int v4)] []) (v1 : Int32) (v2 : Int32) (v3 : Int32) (v4 : Int32) (m : Mem) (h : T_X9_assignAll_34 N rc v1 v2 v3 v4 m = some b) : G Γ 5 1 m 34 [(0, .ref (oa (gw Γ) 0)), (1, .int v1), (2, .int v2), (3, .int v3), (4, .int v4)] [] := by
  unfold T_X9_assignAll_34 at h
  refine g_iload C dX9_assignAll_34 4 rfl ?_
  refine g_aload_n C dX9_assignAll_36 0 rfl rfl ?_
  refine g_getR (ci := 9) (j := 7) C dX9_assignAll_37 rfl (by decide) rfl inT_X9 (by decide) k_333 rfl rfl rfl ?_
  obtain ⟨g_4, h⟩ := gd_some h
  refine g_getI (ci := 6) (j := 2) C dX9_assignAll_40 rfl (by decide) rfl inT_X6 (by decide) k_345 rfl g_4 ?_
  refine g_icmp_ge (tgt := 91) C dX9_assignAll_43 (by decide) (fun c_11 => ?_) (fun c_11 => ?_)
  · replace h := it_t c_11 h
    obtain rfl := Option.some.inj h
    refine g_sub [0, 1, 2, 3] rfl ?_
    exact hE _ _ _ _ rfl
  · replace h := it_f c_11 h
    refine g_aload_n C dX9_assignAll_46 0 rfl rfl ?_
    refine g_getR (ci := 9) (j := 7) C dX9_assignAll_47 rfl (by decide) rfl inT_X9 (by decide) k_333 rfl rfl rfl ?_
    refine g_getT (b := rt (gR m 0 7) 9) (ci := 6) (j := 9) C dX9_assignAll_50 rfl (by decide) rfl inT_X6 (by decide) k_113 rfl rfl rfl g_4 ?_
    refine g_iload C dX9_assignAll_53 4 rfl ?_
    obtain ⟨g_5, h⟩ := gd_some h
    refine g_iald C dX9_assignAll_55 g_5 ?_
    refine g_iload_n C dX9_assignAll_56 1 rfl rfl ?_
    refine g_icmp_ne (tgt := 85) C dX9_assignAll_57 (by decide) (fun c_10 => ?_) (fun c_10 => ?_)
    · replace h := it_f c_10 h
      refine g_iinc (q := 4) (v := v4 + (1 : Int32)) (lv' := [(4, .int (v4 + (1 : Int32))), (0, .ref (oa (gw Γ) 0)), (1, .int v1), (2, .int v2), (3, .int v3)]) C dX9_assignAll_85 rfl rfl (by decide) rfl ?_
      refine g_goto (tgt := 34) C dX9_assignAll_88 (by decide) ?_
      refine g_sub [1, 2, 3, 4, 0] rfl ?_
      exact hrec v1 v2 v3 (v4 + (1 : Int32)) m b h hE
    · replace h := it_t c_10 h
      refine g_aload_n C dX9_assignAll_60 0 rfl rfl ?_
      refine g_getT (b := 3) (ci := 9) (j := 1) C dX9_assignAll_61 rfl (by decide) rfl inT_X9 (by decide) k_334 rfl rfl rfl rfl ?_
      refine g_iload C dX9_assignAll_64 4 rfl ?_
      obtain ⟨r_6, m_6, hk_6, h⟩ := b2_some h
      refine g_vI (As := [.int v4]) (a := 3) (ci := 7) C dX9_assignAll_66 mf_X7_reviewsOfProposal k_396 rfl (by decide) ⟨by decide, by decide⟩ rfl rfl (Nat.le_of_ble_eq_true rfl) (by decide) rfl (c_X7_reviewsOfProposal N (gl Γ) C.2.2.2.2 (gw Γ) v4 m _ hk_6) ?_
      refine g_iload_n C dX9_assignAll_69 3 rfl rfl ?_
      refine g_icmp_ge (tgt := 85) C dX9_assignAll_70 (by decide) (fun c_9 => ?_) (fun c_9 => ?_)
      · replace h := it_t c_9 h
        refine g_iinc (q := 4) (v := v4 + (1 : Int32)) (lv' := [(4, .int (v4 + (1 : Int32))), (0, .ref (oa (gw Γ) 0)), (1, .int v1), (2, .int v2), (3, .int v3)]) C dX9_assignAll_85 rfl rfl (by decide) rfl ?_
        refine g_goto (tgt := 34) C dX9_assignAll_88 (by decide) ?_
        refine g_sub [1, 2, 3, 4, 0] rfl ?_
        exact hrec v1 v2 v3 (v4 + (1 : Int32)) m_6 b h hE
      · replace h := it_f c_9 h
        refine g_aload_n C dX9_assignAll_73 0 rfl rfl ?_
        refine g_iload C dX9_assignAll_74 4 rfl ?_
        obtain ⟨r_7, m_7, hk_7, h⟩ := b2_some h
        refine g_vI (As := [.int v4]) (a := 0) (ci := 9) C dX9_assignAll_76 mf_X9_addReview k_418 rfl (by decide) ⟨by decide, by decide⟩ rfl rfl (Nat.le_of_ble_eq_true rfl) (by decide) rfl (c_X9_addReview N (gl Γ) C.2.2.2.2 (gw Γ) v4 m_6 _ hk_7) ?_
        refine g_if_eq (tgt := 85) C dX9_assignAll_79 (by decide) (fun c_8 => ?_) (fun c_8 => ?_)
        · replace h := it_t c_8 h
          refine g_iinc (q := 4) (v := v4 + (1 : Int32)) (lv' := [(4, .int (v4 + (1 : Int32))), (0, .ref (oa (gw Γ) 0)), (1, .int v1), (2, .int v2), (3, .int v3)]) C dX9_assignAll_85 rfl rfl (by decide) rfl ?_
          refine g_goto (tgt := 34) C dX9_assignAll_88 (by decide) ?_
          refine g_sub [1, 2, 3, 4, 0] rfl ?_
          exact hrec v1 v2 v3 (v4 + (1 : Int32)) m_7 b h hE
        · replace h := it_f c_8 h
          refine g_iinc (q := 2) (v := v2 + (1 : Int32)) (lv' := [(2, .int (v2 + (1 : Int32))), (0, .ref (oa (gw Γ) 0)), (1, .int v1), (3, .int v3), (4, .int v4)]) C dX9_assignAll_82 rfl rfl (by decide) rfl ?_
          refine g_iinc (q := 4) (v := v4 + (1 : Int32)) (lv' := [(4, .int (v4 + (1 : Int32))), (2, .int (v2 + (1 : Int32))), (0, .ref (oa (gw Γ) 0)), (1, .int v1), (3, .int v3)]) C dX9_assignAll_85 rfl rfl (by decide) rfl ?_
          refine g_goto (tgt := 34) C dX9_assignAll_88 (by decide) ?_
          refine g_sub [2, 3, 1, 4, 0] rfl ?_
          exact hrec v1 (v2 + (1 : Int32)) v3 (v4 + (1 : Int32)) m_7 b h hE
theorem lt_X9_assignAll_34 (N : Nat) (Γ : Gc) (C : Cx Γ cX9_assignAll 5 RX9 (rmK 7 136 1)) : ∀ (n : Nat) (v1 : Int32) (v2 : Int32) (v3 : Int32) (v4 : Int32) (m : Mem) (b : Int32 × Int32 × Int32 × Mem), L_X9_assignAll_34 N n v1 v2 v3 v4 m = some b → Ex_X9_assignAll_34 Γ 1 b → G Γ 5 1 m 34 [(0, .ref (oa (gw Γ) 0)), (1, .int v1), (2, .int v2), (3, .int v3), (4, .int v4)] [] := by
  intro n
  induction n with
  | zero =>
    intro v1 v2 v3 v4 m b h
    have h9 : (none : Option (Int32 × Int32 × Int32 × Mem)) = some b := h
    cases h9
  | succ n ih => intro v1 v2 v3 v4 m b h hE; exact t_X9_assignAll_34 N Γ C (L_X9_assignAll_34 N n) b hE ih v1 v2 v3 v4 m h
def Ex_X9_assignAll_20 (Γ : Gc) (cs : Nat) (b : Int32 × Mem) : Prop := (∀ (y2 : Int32) (m' : Mem), b = (y2, m') → G Γ 5 cs m' 97 [(2, .int y2)] [])
set_option maxRecDepth 100000 in
set_option maxHeartbeats 4000000 in
theorem t_X9_assignAll_20 (N : Nat) (Γ : Gc) (C : Cx Γ cX9_assignAll 5 RX9 (rmK 7 136 1)) (rc : Int32 → Int32 → Int32 → Mem → Option (Int32 × Mem)) (b : Int32 × Mem) (hE : Ex_X9_assignAll_20 Γ 1 b) (hrec : ∀ (v1 : Int32) (v2 : Int32) (v3 : Int32) (m : Mem) (b : Int32 × Mem), rc v1 v2 v3 m = some b → Ex_X9_assignAll_20 Γ 1 b → G Γ 5 1 m 20 [(0, .ref (oa (gw Γ) 0)), (1, .int v1), (2, .int v2), (3, .int v3)] []) (v1 : Int32) (v2 : Int32) (v3 : Int32) (m : Mem) (h : T_X9_assignAll_20 N rc v1 v2 v3 m = some b) : G Γ 5 1 m 20 [(0, .ref (oa (gw Γ) 0)), (1, .int v1), (2, .int v2), (3, .int v3)] [] := by
  unfold T_X9_assignAll_20 at h
  refine g_iload_n C dX9_assignAll_20 3 rfl rfl ?_
  refine g_aload_n C dX9_assignAll_21 0 rfl rfl ?_
  refine g_getR (ci := 9) (j := 7) C dX9_assignAll_22 rfl (by decide) rfl inT_X9 (by decide) k_333 rfl rfl rfl ?_
  obtain ⟨g_3, h⟩ := gd_some h
  refine g_getI (ci := 6) (j := 14) C dX9_assignAll_25 rfl (by decide) rfl inT_X6 (by decide) k_400 rfl g_3 ?_
  refine g_icmp_gt (tgt := 97) C dX9_assignAll_28 (by decide) (fun c_13 => ?_) (fun c_13 => ?_)
  · replace h := it_t c_13 h
    obtain rfl := Option.some.inj h
    refine g_sub [2] rfl ?_
    exact hE _ _ rfl
  · replace h := it_f c_13 h
    refine g_iconst (v := (0 : Int32)) C dX9_assignAll_31 (by decide) ?_
    refine g_istore (lv' := [(4, .int (0 : Int32)), (0, .ref (oa (gw Γ) 0)), (1, .int v1), (2, .int v2), (3, .int v3)]) C dX9_assignAll_32 (by decide) rfl ?_
    obtain ⟨v1_12, v2_12, v3_12, m_12, hx, h⟩ := l4_some h
    refine g_sub [1, 2, 3, 4, 0] rfl ?_
    refine lt_X9_assignAll_34 N Γ C N v1 v2 v3 (0 : Int32) m _ hx ?_
    intro z1 z2 z3 m9 e9
    cases e9
    refine g_iinc (q := 3) (v := v3_12 + (1 : Int32)) (lv' := [(3, .int (v3_12 + (1 : Int32))), (0, .ref (oa (gw Γ) 0)), (1, .int v1_12), (2, .int v2_12)]) C dX9_assignAll_91 rfl rfl (by decide) rfl ?_
    refine g_goto (tgt := 20) C dX9_assignAll_94 (by decide) ?_
    refine g_sub [1, 2, 3, 0] rfl ?_
    exact hrec v1_12 v2_12 (v3_12 + (1 : Int32)) m_12 b h hE
theorem lt_X9_assignAll_20 (N : Nat) (Γ : Gc) (C : Cx Γ cX9_assignAll 5 RX9 (rmK 7 136 1)) : ∀ (n : Nat) (v1 : Int32) (v2 : Int32) (v3 : Int32) (m : Mem) (b : Int32 × Mem), L_X9_assignAll_20 N n v1 v2 v3 m = some b → Ex_X9_assignAll_20 Γ 1 b → G Γ 5 1 m 20 [(0, .ref (oa (gw Γ) 0)), (1, .int v1), (2, .int v2), (3, .int v3)] [] := by
  intro n
  induction n with
  | zero =>
    intro v1 v2 v3 m b h
    have h9 : (none : Option (Int32 × Mem)) = some b := h
    cases h9
  | succ n ih => intro v1 v2 v3 m b h hE; exact t_X9_assignAll_20 N Γ C (L_X9_assignAll_20 N n) b hE ih v1 v2 v3 m h
set_option maxRecDepth 100000 in
set_option maxHeartbeats 4000000 in
theorem t_X9_assignAll (N : Nat) (Γ : Gc) (C : Cx Γ cX9_assignAll 5 RX9 (rmK 7 136 1)) (v1 : Int32) (m : Mem) (b : (Int32 ⊕ Nat) × Mem) (h : f_X9_assignAll N v1 m = some b) (hE : EI Γ 5 cX9_assignAll 1 b) : G Γ 5 0 m 0 [(0, .ref (oa (gw Γ) 0)), (1, .int v1)] [] := by
  unfold f_X9_assignAll at h
  refine g_aload_n C dX9_assignAll_0 0 rfl rfl ?_
  refine g_iload_n C dX9_assignAll_1 1 rfl rfl ?_
  rcases x1_some h with ⟨m_1, hk_1, h⟩ | ⟨e_1, m_1, hk_1, rfl⟩
  · refine g_xvV_ok (mc' := 1) (As := [.int v1]) (a := 0) (ci := 9) C dX9_assignAll_2 mf_X9_checkPanel k_414 rfl (by decide) ⟨by decide, by decide⟩ rfl rfl (Nat.le_of_ble_eq_true rfl) (by decide) rfl (c_X9_checkPanel N (gl Γ) C.2.2.2.2 (gw Γ) v1 m _ hk_1) ?_
    refine g_aload_n C dX9_assignAll_5 0 rfl rfl ?_
    refine g_getT (b := 6) (ci := 9) (j := 2) C dX9_assignAll_6 rfl (by decide) rfl inT_X9 (by decide) k_339 rfl rfl rfl rfl ?_
    refine g_aload_n C dX9_assignAll_9 0 rfl rfl ?_
    refine g_getT (b := 3) (ci := 9) (j := 1) C dX9_assignAll_10 rfl (by decide) rfl inT_X9 (by decide) k_334 rfl rfl rfl rfl ?_
    obtain ⟨m_2, hk_2, h⟩ := b1_some h
    refine g_vV (As := [.ref (oa (gw Γ) 3)]) (a := 6) (ci := 2) C dX9_assignAll_13 mf_X2_remember k_378 rfl (by decide) ⟨by decide, by decide⟩ rfl rfl (Nat.le_of_ble_eq_true rfl) (by decide) rfl (c_X2_remember N (gl Γ) C.2.2.2.2 (gw Γ)  m_1 _ hk_2) ?_
    refine g_iconst (v := (0 : Int32)) C dX9_assignAll_16 (by decide) ?_
    refine g_istore_n (lv' := [(2, .int (0 : Int32)), (0, .ref (oa (gw Γ) 0)), (1, .int v1)]) C dX9_assignAll_17 rfl (by decide) rfl ?_
    refine g_iconst (v := (1 : Int32)) C dX9_assignAll_18 (by decide) ?_
    refine g_istore_n (lv' := [(3, .int (1 : Int32)), (2, .int (0 : Int32)), (0, .ref (oa (gw Γ) 0)), (1, .int v1)]) C dX9_assignAll_19 rfl (by decide) rfl ?_
    obtain ⟨v2_14, m_14, hx, h⟩ := l2_some h
    refine g_sub [2, 3, 1, 0] rfl ?_
    refine lt_X9_assignAll_20 N Γ C N v1 (0 : Int32) (1 : Int32) m_2 _ hx ?_
    intro z2 m9 e9
    cases e9
    refine g_iload_n C dX9_assignAll_97 0 rfl rfl ?_
    obtain rfl := Option.some.inj h
    exact (hE).1 _ rfl 1 (by decide) 98 _ dX9_assignAll_98
  · exact g_xvV_th (mc' := 1) (As := [.int v1]) (a := 0) (ci := 9) C dX9_assignAll_2 mf_X9_checkPanel k_414 rfl (by decide) ⟨by decide, by decide⟩ rfl rfl (Nat.le_of_ble_eq_true rfl) (by decide) rfl (c_X9_checkPanel N (gl Γ) C.2.2.2.2 (gw Γ) v1 m _ hk_1) (hE.2 _ rfl)
theorem c_X9_assignAll (N : Nat) (l : Launch) (hst : l.stackTraces = false) (w : Om) (v1 : Int32) (m : Mem) (o : (Int32 ⊕ Nat) × Mem) (h : f_X9_assignAll N v1 m = some o) : XI l yX9_assignAll cX9_assignAll 5 (some .int) 7 136 1 w [.ref (oa w 0), .int v1] m o := XI_of hst (by decide +kernel) RX9 rfl (Nat.le_of_ble_eq_true rfl) (fun Γ hw hl C hE => by
  subst hw; subst hl
  exact t_X9_assignAll N Γ C v1 m o h hE)
def Ex_X9_reviewerOf_10 (Γ : Gc) (cs : Nat) (b : (Mem) ⊕ (Int32 × Mem)) : Prop := (∀  (m' : Mem), b = .inl (m') → G Γ 5 cs m' 52 [] []) ∧ (∀ (y4 : Int32) (m' : Mem), b = .inr ((y4, m')) → G Γ 5 cs m' 40 [(4, .int y4)] [])
set_option maxRecDepth 100000 in
set_option maxHeartbeats 4000000 in
theorem t_X9_reviewerOf_10 (N : Nat) (Γ : Gc) (C : Cx Γ cX9_reviewerOf 5 RX9 (rmK 7 111 2)) (rc : Int32 → Int32 → Int32 → Int32 → Mem → Option ((Mem) ⊕ (Int32 × Mem))) (b : (Mem) ⊕ (Int32 × Mem)) (hE : Ex_X9_reviewerOf_10 Γ 1 b) (hrec : ∀ (v1 : Int32) (v2 : Int32) (v3 : Int32) (v4 : Int32) (m : Mem) (b : (Mem) ⊕ (Int32 × Mem)), rc v1 v2 v3 v4 m = some b → Ex_X9_reviewerOf_10 Γ 1 b → G Γ 5 1 m 10 [(0, .ref (oa (gw Γ) 0)), (1, .int v1), (2, .int v2), (3, .int v3), (4, .int v4)] []) (v1 : Int32) (v2 : Int32) (v3 : Int32) (v4 : Int32) (m : Mem) (h : T_X9_reviewerOf_10 N rc v1 v2 v3 v4 m = some b) : G Γ 5 1 m 10 [(0, .ref (oa (gw Γ) 0)), (1, .int v1), (2, .int v2), (3, .int v3), (4, .int v4)] [] := by
  unfold T_X9_reviewerOf_10 at h
  refine g_iload C dX9_reviewerOf_10 4 rfl ?_
  refine g_aload_n C dX9_reviewerOf_12 0 rfl rfl ?_
  refine g_getR (ci := 9) (j := 7) C dX9_reviewerOf_13 rfl (by decide) rfl inT_X9 (by decide) k_333 rfl rfl rfl ?_
  obtain ⟨g_2, h⟩ := gd_some h
  refine g_getI (ci := 6) (j := 1) C dX9_reviewerOf_16 rfl (by decide) rfl inT_X6 (by decide) k_349 rfl g_2 ?_
  refine g_icmp_ge (tgt := 52) C dX9_reviewerOf_19 (by decide) (fun c_6 => ?_) (fun c_6 => ?_)
  · replace h := it_t c_6 h
    obtain rfl := Option.some.inj h
    refine g_sub [] rfl ?_
    exact hE.1 _ rfl
  · replace h := it_f c_6 h
    refine g_aload_n C dX9_reviewerOf_22 0 rfl rfl ?_
    refine g_getT (b := 3) (ci := 9) (j := 1) C dX9_reviewerOf_23 rfl (by decide) rfl inT_X9 (by decide) k_334 rfl rfl rfl rfl ?_
    refine g_iload C dX9_reviewerOf_26 4 rfl ?_
    refine g_iload_n C dX9_reviewerOf_28 1 rfl rfl ?_
    obtain ⟨r_3, m_3, hk_3, h⟩ := b2_some h
    refine g_vI (As := [.int v4, .int v1]) (a := 3) (ci := 7) C dX9_reviewerOf_29 mf_X7_hasReview k_377 rfl (by decide) ⟨by decide, by decide⟩ rfl rfl (Nat.le_of_ble_eq_true rfl) (by decide) rfl (c_X7_hasReview N (gl Γ) C.2.2.2.2 (gw Γ) v4 v1 m _ hk_3) ?_
    refine g_if_eq (tgt := 46) C dX9_reviewerOf_32 (by decide) (fun c_5 => ?_) (fun c_5 => ?_)
    · replace h := it_t c_5 h
      refine g_iinc (q := 4) (v := v4 + (1 : Int32)) (lv' := [(4, .int (v4 + (1 : Int32))), (0, .ref (oa (gw Γ) 0)), (1, .int v1), (2, .int v2), (3, .int v3)]) C dX9_reviewerOf_46 rfl rfl (by decide) rfl ?_
      refine g_goto (tgt := 10) C dX9_reviewerOf_49 (by decide) ?_
      refine g_sub [1, 2, 3, 4, 0] rfl ?_
      exact hrec v1 v2 v3 (v4 + (1 : Int32)) m_3 b h hE
    · replace h := it_f c_5 h
      refine g_iload_n C dX9_reviewerOf_35 3 rfl rfl ?_
      refine g_iload_n C dX9_reviewerOf_36 2 rfl rfl ?_
      refine g_icmp_ne (tgt := 43) C dX9_reviewerOf_37 (by decide) (fun c_4 => ?_) (fun c_4 => ?_)
      · replace h := it_f c_4 h
        refine g_iinc (q := 3) (v := v3 + (1 : Int32)) (lv' := [(3, .int (v3 + (1 : Int32))), (0, .ref (oa (gw Γ) 0)), (1, .int v1), (2, .int v2), (4, .int v4)]) C dX9_reviewerOf_43 rfl rfl (by decide) rfl ?_
        refine g_iinc (q := 4) (v := v4 + (1 : Int32)) (lv' := [(4, .int (v4 + (1 : Int32))), (3, .int (v3 + (1 : Int32))), (0, .ref (oa (gw Γ) 0)), (1, .int v1), (2, .int v2)]) C dX9_reviewerOf_46 rfl rfl (by decide) rfl ?_
        refine g_goto (tgt := 10) C dX9_reviewerOf_49 (by decide) ?_
        refine g_sub [2, 3, 4, 1, 0] rfl ?_
        exact hrec v1 v2 (v3 + (1 : Int32)) (v4 + (1 : Int32)) m_3 b h hE
      · replace h := it_t c_4 h
        obtain rfl := Option.some.inj h
        refine g_sub [4] rfl ?_
        exact hE.2 _ _ rfl
theorem lt_X9_reviewerOf_10 (N : Nat) (Γ : Gc) (C : Cx Γ cX9_reviewerOf 5 RX9 (rmK 7 111 2)) : ∀ (n : Nat) (v1 : Int32) (v2 : Int32) (v3 : Int32) (v4 : Int32) (m : Mem) (b : (Mem) ⊕ (Int32 × Mem)), L_X9_reviewerOf_10 N n v1 v2 v3 v4 m = some b → Ex_X9_reviewerOf_10 Γ 1 b → G Γ 5 1 m 10 [(0, .ref (oa (gw Γ) 0)), (1, .int v1), (2, .int v2), (3, .int v3), (4, .int v4)] [] := by
  intro n
  induction n with
  | zero =>
    intro v1 v2 v3 v4 m b h
    have h9 : (none : Option ((Mem) ⊕ (Int32 × Mem))) = some b := h
    cases h9
  | succ n ih => intro v1 v2 v3 v4 m b h hE; exact t_X9_reviewerOf_10 N Γ C (L_X9_reviewerOf_10 N n) b hE ih v1 v2 v3 v4 m h
set_option maxRecDepth 100000 in
set_option maxHeartbeats 4000000 in
theorem t_X9_reviewerOf (N : Nat) (Γ : Gc) (C : Cx Γ cX9_reviewerOf 5 RX9 (rmK 7 111 2)) (v1 : Int32) (v2 : Int32) (m : Mem) (b : (Int32 ⊕ Nat) × Mem) (h : f_X9_reviewerOf N v1 v2 m = some b) (hE : EI Γ 5 cX9_reviewerOf 2 b) : G Γ 5 0 m 0 [(0, .ref (oa (gw Γ) 0)), (1, .int v1), (2, .int v2)] [] := by
  unfold f_X9_reviewerOf at h
  refine g_aload_n C dX9_reviewerOf_0 0 rfl rfl ?_
  refine g_iload_n C dX9_reviewerOf_1 1 rfl rfl ?_
  rcases x1_some h with ⟨m_1, hk_1, h⟩ | ⟨e_1, m_1, hk_1, rfl⟩
  · refine g_xvV_ok (mc' := 1) (As := [.int v1]) (a := 0) (ci := 9) C dX9_reviewerOf_2 mf_X9_checkProposal k_368 rfl (by decide) ⟨by decide, by decide⟩ rfl rfl (Nat.le_of_ble_eq_true rfl) (by decide) rfl (c_X9_checkProposal N (gl Γ) C.2.2.2.2 (gw Γ) v1 m _ hk_1) ?_
    refine g_iconst (v := (0 : Int32)) C dX9_reviewerOf_5 (by decide) ?_
    refine g_istore_n (lv' := [(3, .int (0 : Int32)), (0, .ref (oa (gw Γ) 0)), (1, .int v1), (2, .int v2)]) C dX9_reviewerOf_6 rfl (by decide) rfl ?_
    refine g_iconst (v := (0 : Int32)) C dX9_reviewerOf_7 (by decide) ?_
    refine g_istore (lv' := [(4, .int (0 : Int32)), (3, .int (0 : Int32)), (0, .ref (oa (gw Γ) 0)), (1, .int v1), (2, .int v2)]) C dX9_reviewerOf_8 (by decide) rfl ?_
    obtain ⟨x9, hx, h⟩ := ob_some h
    refine g_sub [2, 3, 4, 1, 0] rfl ?_
    refine lt_X9_reviewerOf_10 N Γ C N v1 v2 (0 : Int32) (0 : Int32) m_1 _ hx ?_
    refine ⟨?_, ?_⟩
    · intro  m_7 e9
      subst e9
      replace h : (some (.inr 2, m_7)) = some b := h
      obtain rfl := Option.some.inj h
      exact g_throw (n := 21) C tf_2 dX9_reviewerOf_52 dX9_reviewerOf_55 dX9_reviewerOf_56 dX9_reviewerOf_58 dX9_reviewerOf_61 (List.mem_of_getElem? (i := 21) rfl) (by decide) (Nat.le_of_ble_eq_true rfl) (by decide) ((hE).2 2 rfl)
    · intro v4_7 m_7 e9
      subst e9
      replace h : (some (.inl v4_7, m_7)) = some b := h
      refine g_iload C dX9_reviewerOf_40 0 rfl ?_
      obtain rfl := Option.some.inj h
      exact (hE).1 _ rfl 1 (by decide) 42 _ dX9_reviewerOf_42
  · exact g_xvV_th (mc' := 1) (As := [.int v1]) (a := 0) (ci := 9) C dX9_reviewerOf_2 mf_X9_checkProposal k_368 rfl (by decide) ⟨by decide, by decide⟩ rfl rfl (Nat.le_of_ble_eq_true rfl) (by decide) rfl (c_X9_checkProposal N (gl Γ) C.2.2.2.2 (gw Γ) v1 m _ hk_1) (hE.2 _ rfl)
theorem c_X9_reviewerOf (N : Nat) (l : Launch) (hst : l.stackTraces = false) (w : Om) (v1 : Int32) (v2 : Int32) (m : Mem) (o : (Int32 ⊕ Nat) × Mem) (h : f_X9_reviewerOf N v1 v2 m = some o) : XI l yX9_reviewerOf cX9_reviewerOf 5 (some .int) 7 111 2 w [.ref (oa w 0), .int v1, .int v2] m o := XI_of hst (by decide +kernel) RX9 rfl (Nat.le_of_ble_eq_true rfl) (fun Γ hw hl C hE => by
  subst hw; subst hl
  exact t_X9_reviewerOf N Γ C v1 v2 m o h hE)
set_option maxRecDepth 100000 in
set_option maxHeartbeats 4000000 in
theorem t_X9_loadOf (N : Nat) (Γ : Gc) (C : Cx Γ cX9_loadOf 2 RX9 (rmK 7 111 1)) (v1 : Int32) (m : Mem) (b : (Int32 ⊕ Nat) × Mem) (h : f_X9_loadOf N v1 m = some b) (hE : EI Γ 2 cX9_loadOf 1 b) : G Γ 2 0 m 0 [(0, .ref (oa (gw Γ) 0)), (1, .int v1)] [] := by
  unfold f_X9_loadOf at h
  refine g_aload_n C dX9_loadOf_0 0 rfl rfl ?_
  refine g_iload_n C dX9_loadOf_1 1 rfl rfl ?_
  rcases x1_some h with ⟨m_1, hk_1, h⟩ | ⟨e_1, m_1, hk_1, rfl⟩
  · refine g_xvV_ok (mc' := 1) (As := [.int v1]) (a := 0) (ci := 9) C dX9_loadOf_2 mf_X9_checkReviewer k_364 rfl (by decide) ⟨by decide, by decide⟩ rfl rfl (Nat.le_of_ble_eq_true rfl) (by decide) rfl (c_X9_checkReviewer N (gl Γ) C.2.2.2.2 (gw Γ) v1 m _ hk_1) ?_
    refine g_aload_n C dX9_loadOf_5 0 rfl rfl ?_
    refine g_getT (b := 3) (ci := 9) (j := 1) C dX9_loadOf_6 rfl (by decide) rfl inT_X9 (by decide) k_334 rfl rfl rfl rfl ?_
    refine g_iload_n C dX9_loadOf_9 1 rfl rfl ?_
    obtain ⟨r_2, m_2, hk_2, h⟩ := b2_some h
    refine g_vI (As := [.int v1]) (a := 3) (ci := 7) C dX9_loadOf_10 mf_X7_reviewsOfReviewer k_386 rfl (by decide) ⟨by decide, by decide⟩ rfl rfl (Nat.le_of_ble_eq_true rfl) (by decide) rfl (c_X7_reviewsOfReviewer N (gl Γ) C.2.2.2.2 (gw Γ) v1 m_1 _ hk_2) ?_
    obtain rfl := Option.some.inj h
    exact (hE).1 _ rfl 1 (by decide) 13 _ dX9_loadOf_13
  · exact g_xvV_th (mc' := 1) (As := [.int v1]) (a := 0) (ci := 9) C dX9_loadOf_2 mf_X9_checkReviewer k_364 rfl (by decide) ⟨by decide, by decide⟩ rfl rfl (Nat.le_of_ble_eq_true rfl) (by decide) rfl (c_X9_checkReviewer N (gl Γ) C.2.2.2.2 (gw Γ) v1 m _ hk_1) (hE.2 _ rfl)
theorem c_X9_loadOf (N : Nat) (l : Launch) (hst : l.stackTraces = false) (w : Om) (v1 : Int32) (m : Mem) (o : (Int32 ⊕ Nat) × Mem) (h : f_X9_loadOf N v1 m = some o) : XI l yX9_loadOf cX9_loadOf 2 (some .int) 7 111 1 w [.ref (oa w 0), .int v1] m o := XI_of hst (by decide +kernel) RX9 rfl (Nat.le_of_ble_eq_true rfl) (fun Γ hw hl C hE => by
  subst hw; subst hl
  exact t_X9_loadOf N Γ C v1 m o h hE)
def Ex_X9_matchSum_23 (Γ : Gc) (cs : Nat) (b : Int32 × Int32 × Int32 × Mem) : Prop := (∀ (y1 : Int32) (y2 : Int32) (y3 : Int32) (m' : Mem), b = (y1, y2, y3, m') → G Γ 5 cs m' 80 [(0, .ref (oa (gw Γ) 0)), (1, .int y1), (2, .int y2), (3, .int y3)] [])
set_option maxRecDepth 100000 in
set_option maxHeartbeats 4000000 in
theorem t_X9_matchSum_23 (N : Nat) (Γ : Gc) (C : Cx Γ cX9_matchSum 5 RX9 (rmK 7 111 1)) (rc : Int32 → Int32 → Int32 → Int32 → Mem → Option (Int32 × Int32 × Int32 × Mem)) (b : Int32 × Int32 × Int32 × Mem) (hE : Ex_X9_matchSum_23 Γ 1 b) (hrec : ∀ (v1 : Int32) (v2 : Int32) (v3 : Int32) (v4 : Int32) (m : Mem) (b : Int32 × Int32 × Int32 × Mem), rc v1 v2 v3 v4 m = some b → Ex_X9_matchSum_23 Γ 1 b → G Γ 5 1 m 23 [(0, .ref (oa (gw Γ) 0)), (1, .int v1), (2, .int v2), (3, .int v3), (4, .int v4)] []) (v1 : Int32) (v2 : Int32) (v3 : Int32) (v4 : Int32) (m : Mem) (h : T_X9_matchSum_23 N rc v1 v2 v3 v4 m = some b) : G Γ 5 1 m 23 [(0, .ref (oa (gw Γ) 0)), (1, .int v1), (2, .int v2), (3, .int v3), (4, .int v4)] [] := by
  unfold T_X9_matchSum_23 at h
  refine g_iload C dX9_matchSum_23 4 rfl ?_
  refine g_aload_n C dX9_matchSum_25 0 rfl rfl ?_
  refine g_getR (ci := 9) (j := 7) C dX9_matchSum_26 rfl (by decide) rfl inT_X9 (by decide) k_333 rfl rfl rfl ?_
  obtain ⟨g_3, h⟩ := gd_some h
  refine g_getI (ci := 6) (j := 1) C dX9_matchSum_29 rfl (by decide) rfl inT_X6 (by decide) k_349 rfl g_3 ?_
  refine g_icmp_ge (tgt := 80) C dX9_matchSum_32 (by decide) (fun c_10 => ?_) (fun c_10 => ?_)
  · replace h := it_t c_10 h
    obtain rfl := Option.some.inj h
    refine g_sub [0, 1, 2, 3] rfl ?_
    exact hE _ _ _ _ rfl
  · replace h := it_f c_10 h
    refine g_aload_n C dX9_matchSum_35 0 rfl rfl ?_
    refine g_getR (ci := 9) (j := 7) C dX9_matchSum_36 rfl (by decide) rfl inT_X9 (by decide) k_333 rfl rfl rfl ?_
    refine g_getT (b := rt (gR m 0 7) 9) (ci := 6) (j := 9) C dX9_matchSum_39 rfl (by decide) rfl inT_X6 (by decide) k_113 rfl rfl rfl g_3 ?_
    refine g_iload_n C dX9_matchSum_42 3 rfl rfl ?_
    obtain ⟨g_4, h⟩ := gd_some h
    refine g_iald C dX9_matchSum_43 g_4 ?_
    refine g_iload_n C dX9_matchSum_44 1 rfl rfl ?_
    refine g_icmp_ne (tgt := 74) C dX9_matchSum_45 (by decide) (fun c_9 => ?_) (fun c_9 => ?_)
    · replace h := it_f c_9 h
      refine g_iinc (q := 4) (v := v4 + (1 : Int32)) (lv' := [(4, .int (v4 + (1 : Int32))), (0, .ref (oa (gw Γ) 0)), (1, .int v1), (2, .int v2), (3, .int v3)]) C dX9_matchSum_74 rfl rfl (by decide) rfl ?_
      refine g_goto (tgt := 23) C dX9_matchSum_77 (by decide) ?_
      refine g_sub [1, 2, 3, 4, 0] rfl ?_
      exact hrec v1 v2 v3 (v4 + (1 : Int32)) m b h hE
    · replace h := it_t c_9 h
      refine g_aload_n C dX9_matchSum_48 0 rfl rfl ?_
      refine g_getT (b := 3) (ci := 9) (j := 1) C dX9_matchSum_49 rfl (by decide) rfl inT_X9 (by decide) k_334 rfl rfl rfl rfl ?_
      refine g_iload C dX9_matchSum_52 4 rfl ?_
      refine g_iload_n C dX9_matchSum_54 3 rfl rfl ?_
      obtain ⟨r_5, m_5, hk_5, h⟩ := b2_some h
      refine g_vI (As := [.int v4, .int v3]) (a := 3) (ci := 7) C dX9_matchSum_55 mf_X7_hasReview k_377 rfl (by decide) ⟨by decide, by decide⟩ rfl rfl (Nat.le_of_ble_eq_true rfl) (by decide) rfl (c_X7_hasReview N (gl Γ) C.2.2.2.2 (gw Γ) v4 v3 m _ hk_5) ?_
      refine g_if_eq (tgt := 74) C dX9_matchSum_58 (by decide) (fun c_8 => ?_) (fun c_8 => ?_)
      · replace h := it_t c_8 h
        refine g_iinc (q := 4) (v := v4 + (1 : Int32)) (lv' := [(4, .int (v4 + (1 : Int32))), (0, .ref (oa (gw Γ) 0)), (1, .int v1), (2, .int v2), (3, .int v3)]) C dX9_matchSum_74 rfl rfl (by decide) rfl ?_
        refine g_goto (tgt := 23) C dX9_matchSum_77 (by decide) ?_
        refine g_sub [1, 2, 3, 4, 0] rfl ?_
        exact hrec v1 v2 v3 (v4 + (1 : Int32)) m_5 b h hE
      · replace h := it_f c_8 h
        refine g_iload_n C dX9_matchSum_61 2 rfl rfl ?_
        refine g_aload_n C dX9_matchSum_62 0 rfl rfl ?_
        refine g_getR (ci := 9) (j := 7) C dX9_matchSum_63 rfl (by decide) rfl inT_X9 (by decide) k_333 rfl rfl rfl ?_
        refine g_iload C dX9_matchSum_66 4 rfl ?_
        refine g_iload_n C dX9_matchSum_68 3 rfl rfl ?_
        obtain ⟨g_6, h⟩ := gd_some h
        obtain ⟨r_7, m_7, hk_7, h⟩ := b2_some h
        refine g_vI (As := [.int v4, .int v3]) (a := (gR m_5 0 7)) (ci := 6) C dX9_matchSum_69 mf_X6_matchOf k_376 rfl (by decide) ⟨by decide, by decide⟩ rfl rfl (Nat.le_of_ble_eq_true rfl) (by decide) g_6 (c_X6_matchOf N (gl Γ) C.2.2.2.2 (gw Γ) (gR m_5 0 7) v4 v3 m_5 _ hk_7) ?_
        refine g_iadd C dX9_matchSum_72 ?_
        refine g_istore_n (lv' := [(2, .int (v2 + r_7)), (0, .ref (oa (gw Γ) 0)), (1, .int v1), (3, .int v3), (4, .int v4)]) C dX9_matchSum_73 rfl (by decide) rfl ?_
        refine g_iinc (q := 4) (v := v4 + (1 : Int32)) (lv' := [(4, .int (v4 + (1 : Int32))), (2, .int (v2 + r_7)), (0, .ref (oa (gw Γ) 0)), (1, .int v1), (3, .int v3)]) C dX9_matchSum_74 rfl rfl (by decide) rfl ?_
        refine g_goto (tgt := 23) C dX9_matchSum_77 (by decide) ?_
        refine g_sub [2, 3, 1, 4, 0] rfl ?_
        exact hrec v1 (v2 + r_7) v3 (v4 + (1 : Int32)) m_7 b h hE
theorem lt_X9_matchSum_23 (N : Nat) (Γ : Gc) (C : Cx Γ cX9_matchSum 5 RX9 (rmK 7 111 1)) : ∀ (n : Nat) (v1 : Int32) (v2 : Int32) (v3 : Int32) (v4 : Int32) (m : Mem) (b : Int32 × Int32 × Int32 × Mem), L_X9_matchSum_23 N n v1 v2 v3 v4 m = some b → Ex_X9_matchSum_23 Γ 1 b → G Γ 5 1 m 23 [(0, .ref (oa (gw Γ) 0)), (1, .int v1), (2, .int v2), (3, .int v3), (4, .int v4)] [] := by
  intro n
  induction n with
  | zero =>
    intro v1 v2 v3 v4 m b h
    have h9 : (none : Option (Int32 × Int32 × Int32 × Mem)) = some b := h
    cases h9
  | succ n ih => intro v1 v2 v3 v4 m b h hE; exact t_X9_matchSum_23 N Γ C (L_X9_matchSum_23 N n) b hE ih v1 v2 v3 v4 m h
def Ex_X9_matchSum_9 (Γ : Gc) (cs : Nat) (b : Int32 × Mem) : Prop := (∀ (y2 : Int32) (m' : Mem), b = (y2, m') → G Γ 5 cs m' 86 [(2, .int y2)] [])
set_option maxRecDepth 100000 in
set_option maxHeartbeats 4000000 in
theorem t_X9_matchSum_9 (N : Nat) (Γ : Gc) (C : Cx Γ cX9_matchSum 5 RX9 (rmK 7 111 1)) (rc : Int32 → Int32 → Int32 → Mem → Option (Int32 × Mem)) (b : Int32 × Mem) (hE : Ex_X9_matchSum_9 Γ 1 b) (hrec : ∀ (v1 : Int32) (v2 : Int32) (v3 : Int32) (m : Mem) (b : Int32 × Mem), rc v1 v2 v3 m = some b → Ex_X9_matchSum_9 Γ 1 b → G Γ 5 1 m 9 [(0, .ref (oa (gw Γ) 0)), (1, .int v1), (2, .int v2), (3, .int v3)] []) (v1 : Int32) (v2 : Int32) (v3 : Int32) (m : Mem) (h : T_X9_matchSum_9 N rc v1 v2 v3 m = some b) : G Γ 5 1 m 9 [(0, .ref (oa (gw Γ) 0)), (1, .int v1), (2, .int v2), (3, .int v3)] [] := by
  unfold T_X9_matchSum_9 at h
  refine g_iload_n C dX9_matchSum_9 3 rfl rfl ?_
  refine g_aload_n C dX9_matchSum_10 0 rfl rfl ?_
  refine g_getR (ci := 9) (j := 7) C dX9_matchSum_11 rfl (by decide) rfl inT_X9 (by decide) k_333 rfl rfl rfl ?_
  obtain ⟨g_2, h⟩ := gd_some h
  refine g_getI (ci := 6) (j := 2) C dX9_matchSum_14 rfl (by decide) rfl inT_X6 (by decide) k_345 rfl g_2 ?_
  refine g_icmp_ge (tgt := 86) C dX9_matchSum_17 (by decide) (fun c_12 => ?_) (fun c_12 => ?_)
  · replace h := it_t c_12 h
    obtain rfl := Option.some.inj h
    refine g_sub [2] rfl ?_
    exact hE _ _ rfl
  · replace h := it_f c_12 h
    refine g_iconst (v := (0 : Int32)) C dX9_matchSum_20 (by decide) ?_
    refine g_istore (lv' := [(4, .int (0 : Int32)), (0, .ref (oa (gw Γ) 0)), (1, .int v1), (2, .int v2), (3, .int v3)]) C dX9_matchSum_21 (by decide) rfl ?_
    obtain ⟨v1_11, v2_11, v3_11, m_11, hx, h⟩ := l4_some h
    refine g_sub [1, 2, 3, 4, 0] rfl ?_
    refine lt_X9_matchSum_23 N Γ C N v1 v2 v3 (0 : Int32) m _ hx ?_
    intro z1 z2 z3 m9 e9
    cases e9
    refine g_iinc (q := 3) (v := v3_11 + (1 : Int32)) (lv' := [(3, .int (v3_11 + (1 : Int32))), (0, .ref (oa (gw Γ) 0)), (1, .int v1_11), (2, .int v2_11)]) C dX9_matchSum_80 rfl rfl (by decide) rfl ?_
    refine g_goto (tgt := 9) C dX9_matchSum_83 (by decide) ?_
    refine g_sub [1, 2, 3, 0] rfl ?_
    exact hrec v1_11 v2_11 (v3_11 + (1 : Int32)) m_11 b h hE
theorem lt_X9_matchSum_9 (N : Nat) (Γ : Gc) (C : Cx Γ cX9_matchSum 5 RX9 (rmK 7 111 1)) : ∀ (n : Nat) (v1 : Int32) (v2 : Int32) (v3 : Int32) (m : Mem) (b : Int32 × Mem), L_X9_matchSum_9 N n v1 v2 v3 m = some b → Ex_X9_matchSum_9 Γ 1 b → G Γ 5 1 m 9 [(0, .ref (oa (gw Γ) 0)), (1, .int v1), (2, .int v2), (3, .int v3)] [] := by
  intro n
  induction n with
  | zero =>
    intro v1 v2 v3 m b h
    have h9 : (none : Option (Int32 × Mem)) = some b := h
    cases h9
  | succ n ih => intro v1 v2 v3 m b h hE; exact t_X9_matchSum_9 N Γ C (L_X9_matchSum_9 N n) b hE ih v1 v2 v3 m h
set_option maxRecDepth 100000 in
set_option maxHeartbeats 4000000 in
theorem t_X9_matchSum (N : Nat) (Γ : Gc) (C : Cx Γ cX9_matchSum 5 RX9 (rmK 7 111 1)) (v1 : Int32) (m : Mem) (b : (Int32 ⊕ Nat) × Mem) (h : f_X9_matchSum N v1 m = some b) (hE : EI Γ 5 cX9_matchSum 1 b) : G Γ 5 0 m 0 [(0, .ref (oa (gw Γ) 0)), (1, .int v1)] [] := by
  unfold f_X9_matchSum at h
  refine g_aload_n C dX9_matchSum_0 0 rfl rfl ?_
  refine g_iload_n C dX9_matchSum_1 1 rfl rfl ?_
  rcases x1_some h with ⟨m_1, hk_1, h⟩ | ⟨e_1, m_1, hk_1, rfl⟩
  · refine g_xvV_ok (mc' := 1) (As := [.int v1]) (a := 0) (ci := 9) C dX9_matchSum_2 mf_X9_checkPanel k_414 rfl (by decide) ⟨by decide, by decide⟩ rfl rfl (Nat.le_of_ble_eq_true rfl) (by decide) rfl (c_X9_checkPanel N (gl Γ) C.2.2.2.2 (gw Γ) v1 m _ hk_1) ?_
    refine g_iconst (v := (0 : Int32)) C dX9_matchSum_5 (by decide) ?_
    refine g_istore_n (lv' := [(2, .int (0 : Int32)), (0, .ref (oa (gw Γ) 0)), (1, .int v1)]) C dX9_matchSum_6 rfl (by decide) rfl ?_
    refine g_iconst (v := (0 : Int32)) C dX9_matchSum_7 (by decide) ?_
    refine g_istore_n (lv' := [(3, .int (0 : Int32)), (2, .int (0 : Int32)), (0, .ref (oa (gw Γ) 0)), (1, .int v1)]) C dX9_matchSum_8 rfl (by decide) rfl ?_
    obtain ⟨v2_13, m_13, hx, h⟩ := l2_some h
    refine g_sub [2, 3, 1, 0] rfl ?_
    refine lt_X9_matchSum_9 N Γ C N v1 (0 : Int32) (0 : Int32) m_1 _ hx ?_
    intro z2 m9 e9
    cases e9
    refine g_iload_n C dX9_matchSum_86 0 rfl rfl ?_
    obtain rfl := Option.some.inj h
    exact (hE).1 _ rfl 1 (by decide) 87 _ dX9_matchSum_87
  · exact g_xvV_th (mc' := 1) (As := [.int v1]) (a := 0) (ci := 9) C dX9_matchSum_2 mf_X9_checkPanel k_414 rfl (by decide) ⟨by decide, by decide⟩ rfl rfl (Nat.le_of_ble_eq_true rfl) (by decide) rfl (c_X9_checkPanel N (gl Γ) C.2.2.2.2 (gw Γ) v1 m _ hk_1) (hE.2 _ rfl)
theorem c_X9_matchSum (N : Nat) (l : Launch) (hst : l.stackTraces = false) (w : Om) (v1 : Int32) (m : Mem) (o : (Int32 ⊕ Nat) × Mem) (h : f_X9_matchSum N v1 m = some o) : XI l yX9_matchSum cX9_matchSum 5 (some .int) 7 111 1 w [.ref (oa w 0), .int v1] m o := XI_of hst (by decide +kernel) RX9 rfl (Nat.le_of_ble_eq_true rfl) (fun Γ hw hl C hE => by
  subst hw; subst hl
  exact t_X9_matchSum N Γ C v1 m o h hE)
set_option maxRecDepth 100000 in
set_option maxHeartbeats 4000000 in
theorem t_X9_mostReviews (N : Nat) (Γ : Gc) (C : Cx Γ cX9_mostReviews 2 RX9 (rmK 7 120 1)) (v1 : Int32) (m : Mem) (b : (Int32 ⊕ Nat) × Mem) (h : f_X9_mostReviews N v1 m = some b) (hE : EI Γ 2 cX9_mostReviews 1 b) : G Γ 2 0 m 0 [(0, .ref (oa (gw Γ) 0)), (1, .int v1)] [] := by
  unfold f_X9_mostReviews at h
  refine g_aload_n C dX9_mostReviews_0 0 rfl rfl ?_
  refine g_iload_n C dX9_mostReviews_1 1 rfl rfl ?_
  rcases x1_some h with ⟨m_1, hk_1, h⟩ | ⟨e_1, m_1, hk_1, rfl⟩
  · refine g_xvV_ok (mc' := 1) (As := [.int v1]) (a := 0) (ci := 9) C dX9_mostReviews_2 mf_X9_checkPanel k_414 rfl (by decide) ⟨by decide, by decide⟩ rfl rfl (Nat.le_of_ble_eq_true rfl) (by decide) rfl (c_X9_checkPanel N (gl Γ) C.2.2.2.2 (gw Γ) v1 m _ hk_1) ?_
    refine g_aload_n C dX9_mostReviews_5 0 rfl rfl ?_
    refine g_getT (b := 51) (ci := 9) (j := 5) C dX9_mostReviews_6 rfl (by decide) rfl inT_X9 (by decide) k_422 rfl rfl rfl rfl ?_
    refine g_aload_n C dX9_mostReviews_9 0 rfl rfl ?_
    refine g_getR (ci := 9) (j := 7) C dX9_mostReviews_10 rfl (by decide) rfl inT_X9 (by decide) k_333 rfl rfl rfl ?_
    refine g_aload_n C dX9_mostReviews_13 0 rfl rfl ?_
    refine g_getT (b := 3) (ci := 9) (j := 1) C dX9_mostReviews_14 rfl (by decide) rfl inT_X9 (by decide) k_334 rfl rfl rfl rfl ?_
    refine g_iload_n C dX9_mostReviews_17 1 rfl rfl ?_
    obtain ⟨m_2, hk_2, h⟩ := b1_some h
    refine g_vV (As := [.ref (oa (gw Γ) (gR m_1 0 7)), .ref (oa (gw Γ) 3), .int v1]) (a := 51) (ci := 4) C dX9_mostReviews_18 mf_X4_solve k_423 rfl (by decide) ⟨by decide, by decide⟩ rfl rfl (Nat.le_of_ble_eq_true rfl) (by decide) rfl (c_X4_solve N (gl Γ) C.2.2.2.2 (gw Γ) (gR m_1 0 7) v1 m_1 _ hk_2) ?_
    refine g_aload_n C dX9_mostReviews_21 0 rfl rfl ?_
    refine g_getT (b := 51) (ci := 9) (j := 5) C dX9_mostReviews_22 rfl (by decide) rfl inT_X9 (by decide) k_422 rfl rfl rfl rfl ?_
    refine g_getI (ci := 4) (j := 10) C dX9_mostReviews_25 rfl (by decide) rfl inT_X4 (by decide) k_427 rfl rfl ?_
    obtain rfl := Option.some.inj h
    exact (hE).1 _ rfl 1 (by decide) 28 _ dX9_mostReviews_28
  · exact g_xvV_th (mc' := 1) (As := [.int v1]) (a := 0) (ci := 9) C dX9_mostReviews_2 mf_X9_checkPanel k_414 rfl (by decide) ⟨by decide, by decide⟩ rfl rfl (Nat.le_of_ble_eq_true rfl) (by decide) rfl (c_X9_checkPanel N (gl Γ) C.2.2.2.2 (gw Γ) v1 m _ hk_1) (hE.2 _ rfl)
theorem c_X9_mostReviews (N : Nat) (l : Launch) (hst : l.stackTraces = false) (w : Om) (v1 : Int32) (m : Mem) (o : (Int32 ⊕ Nat) × Mem) (h : f_X9_mostReviews N v1 m = some o) : XI l yX9_mostReviews cX9_mostReviews 2 (some .int) 7 120 1 w [.ref (oa w 0), .int v1] m o := XI_of hst (by decide +kernel) RX9 rfl (Nat.le_of_ble_eq_true rfl) (fun Γ hw hl C hE => by
  subst hw; subst hl
  exact t_X9_mostReviews N Γ C v1 m o h hE)
set_option maxRecDepth 100000 in
set_option maxHeartbeats 4000000 in
theorem t_X9_bestMatchSum (N : Nat) (Γ : Gc) (C : Cx Γ cX9_bestMatchSum 2 RX9 (rmK 7 120 1)) (v1 : Int32) (m : Mem) (b : (Int32 ⊕ Nat) × Mem) (h : f_X9_bestMatchSum N v1 m = some b) (hE : EI Γ 2 cX9_bestMatchSum 1 b) : G Γ 2 0 m 0 [(0, .ref (oa (gw Γ) 0)), (1, .int v1)] [] := by
  unfold f_X9_bestMatchSum at h
  refine g_aload_n C dX9_bestMatchSum_0 0 rfl rfl ?_
  refine g_iload_n C dX9_bestMatchSum_1 1 rfl rfl ?_
  rcases x1_some h with ⟨m_1, hk_1, h⟩ | ⟨e_1, m_1, hk_1, rfl⟩
  · refine g_xvV_ok (mc' := 1) (As := [.int v1]) (a := 0) (ci := 9) C dX9_bestMatchSum_2 mf_X9_checkPanel k_414 rfl (by decide) ⟨by decide, by decide⟩ rfl rfl (Nat.le_of_ble_eq_true rfl) (by decide) rfl (c_X9_checkPanel N (gl Γ) C.2.2.2.2 (gw Γ) v1 m _ hk_1) ?_
    refine g_aload_n C dX9_bestMatchSum_5 0 rfl rfl ?_
    refine g_getT (b := 51) (ci := 9) (j := 5) C dX9_bestMatchSum_6 rfl (by decide) rfl inT_X9 (by decide) k_422 rfl rfl rfl rfl ?_
    refine g_aload_n C dX9_bestMatchSum_9 0 rfl rfl ?_
    refine g_getR (ci := 9) (j := 7) C dX9_bestMatchSum_10 rfl (by decide) rfl inT_X9 (by decide) k_333 rfl rfl rfl ?_
    refine g_aload_n C dX9_bestMatchSum_13 0 rfl rfl ?_
    refine g_getT (b := 3) (ci := 9) (j := 1) C dX9_bestMatchSum_14 rfl (by decide) rfl inT_X9 (by decide) k_334 rfl rfl rfl rfl ?_
    refine g_iload_n C dX9_bestMatchSum_17 1 rfl rfl ?_
    obtain ⟨m_2, hk_2, h⟩ := b1_some h
    refine g_vV (As := [.ref (oa (gw Γ) (gR m_1 0 7)), .ref (oa (gw Γ) 3), .int v1]) (a := 51) (ci := 4) C dX9_bestMatchSum_18 mf_X4_solve k_423 rfl (by decide) ⟨by decide, by decide⟩ rfl rfl (Nat.le_of_ble_eq_true rfl) (by decide) rfl (c_X4_solve N (gl Γ) C.2.2.2.2 (gw Γ) (gR m_1 0 7) v1 m_1 _ hk_2) ?_
    refine g_aload_n C dX9_bestMatchSum_21 0 rfl rfl ?_
    refine g_getT (b := 51) (ci := 9) (j := 5) C dX9_bestMatchSum_22 rfl (by decide) rfl inT_X9 (by decide) k_422 rfl rfl rfl rfl ?_
    refine g_getI (ci := 4) (j := 11) C dX9_bestMatchSum_25 rfl (by decide) rfl inT_X4 (by decide) k_428 rfl rfl ?_
    obtain rfl := Option.some.inj h
    exact (hE).1 _ rfl 1 (by decide) 28 _ dX9_bestMatchSum_28
  · exact g_xvV_th (mc' := 1) (As := [.int v1]) (a := 0) (ci := 9) C dX9_bestMatchSum_2 mf_X9_checkPanel k_414 rfl (by decide) ⟨by decide, by decide⟩ rfl rfl (Nat.le_of_ble_eq_true rfl) (by decide) rfl (c_X9_checkPanel N (gl Γ) C.2.2.2.2 (gw Γ) v1 m _ hk_1) (hE.2 _ rfl)
theorem c_X9_bestMatchSum (N : Nat) (l : Launch) (hst : l.stackTraces = false) (w : Om) (v1 : Int32) (m : Mem) (o : (Int32 ⊕ Nat) × Mem) (h : f_X9_bestMatchSum N v1 m = some o) : XI l yX9_bestMatchSum cX9_bestMatchSum 2 (some .int) 7 120 1 w [.ref (oa w 0), .int v1] m o := XI_of hst (by decide +kernel) RX9 rfl (Nat.le_of_ble_eq_true rfl) (fun Γ hw hl C hE => by
  subst hw; subst hl
  exact t_X9_bestMatchSum N Γ C v1 m o h hE)
set_option maxRecDepth 100000 in
set_option maxHeartbeats 4000000 in
theorem t_X9_setScore_32 (N : Nat) (Γ : Gc) (C : Cx Γ cX9_setScore 5 RX9 (rmK 8 133 3)) (b : (Int32 ⊕ Nat) × Mem) (hE : EI Γ 5 cX9_setScore 3 b) (v1 : Int32) (v2 : Int32) (v3 : Int32) (m : Mem) (h : B_X9_setScore_32 N v1 v2 v3 m = some b) : G Γ 5 2 m 32 [(0, .ref (oa (gw Γ) 0)), (1, .int v1), (2, .int v2), (3, .int v3)] [] := by
  unfold B_X9_setScore_32 at h
  refine g_aload_n C dX9_setScore_32 0 rfl rfl ?_
  refine g_iload_n C dX9_setScore_33 1 rfl rfl ?_
  refine g_iload_n C dX9_setScore_34 2 rfl rfl ?_
  rcases x1_some h with ⟨m_2, hk_2, h⟩ | ⟨e_2, m_2, hk_2, rfl⟩
  · refine g_xvV_ok (mc' := 1) (As := [.int v1, .int v2]) (a := 0) (ci := 9) C dX9_setScore_35 mf_X9_checkReview k_405 rfl (by decide) ⟨by decide, by decide⟩ rfl rfl (Nat.le_of_ble_eq_true rfl) (by decide) rfl (c_X9_checkReview N (gl Γ) C.2.2.2.2 (gw Γ) v1 v2 m _ hk_2) ?_
    refine g_aload_n C dX9_setScore_38 0 rfl rfl ?_
    refine g_getT (b := 6) (ci := 9) (j := 2) C dX9_setScore_39 rfl (by decide) rfl inT_X9 (by decide) k_339 rfl rfl rfl rfl ?_
    refine g_aload_n C dX9_setScore_42 0 rfl rfl ?_
    refine g_getT (b := 3) (ci := 9) (j := 1) C dX9_setScore_43 rfl (by decide) rfl inT_X9 (by decide) k_334 rfl rfl rfl rfl ?_
    obtain ⟨m_3, hk_3, h⟩ := b1_some h
    refine g_vV (As := [.ref (oa (gw Γ) 3)]) (a := 6) (ci := 2) C dX9_setScore_46 mf_X2_remember k_378 rfl (by decide) ⟨by decide, by decide⟩ rfl rfl (Nat.le_of_ble_eq_true rfl) (by decide) rfl (c_X2_remember N (gl Γ) C.2.2.2.2 (gw Γ)  m_2 _ hk_3) ?_
    refine g_aload_n C dX9_setScore_49 0 rfl rfl ?_
    refine g_getT (b := 3) (ci := 9) (j := 1) C dX9_setScore_50 rfl (by decide) rfl inT_X9 (by decide) k_334 rfl rfl rfl rfl ?_
    refine g_iload_n C dX9_setScore_53 1 rfl rfl ?_
    refine g_iload_n C dX9_setScore_54 2 rfl rfl ?_
    obtain ⟨r_4, m_4, hk_4, h⟩ := b2_some h
    refine g_vI (As := [.int v1, .int v2]) (a := 3) (ci := 7) C dX9_setScore_55 mf_X7_scoreAt k_409 rfl (by decide) ⟨by decide, by decide⟩ rfl rfl (Nat.le_of_ble_eq_true rfl) (by decide) rfl (c_X7_scoreAt N (gl Γ) C.2.2.2.2 (gw Γ) v1 v2 m_3 _ hk_4) ?_
    refine g_istore (lv' := [(4, .int r_4), (0, .ref (oa (gw Γ) 0)), (1, .int v1), (2, .int v2), (3, .int v3)]) C dX9_setScore_58 (by decide) rfl ?_
    refine g_aload_n C dX9_setScore_60 1 rfl rfl ?_
    refine g_getT (b := 3) (ci := 9) (j := 1) C dX9_setScore_61 rfl (by decide) rfl inT_X9 (by decide) k_334 rfl rfl rfl rfl ?_
    refine g_iload_n C dX9_setScore_64 2 rfl rfl ?_
    refine g_iload_n C dX9_setScore_65 3 rfl rfl ?_
    refine g_iload_n C dX9_setScore_66 4 rfl rfl ?_
    obtain ⟨m_5, hk_5, h⟩ := b1_some h
    refine g_vV (As := [.int v1, .int v2, .int v3]) (a := 3) (ci := 7) C dX9_setScore_67 mf_X7_put k_401 rfl (by decide) ⟨by decide, by decide⟩ rfl rfl (Nat.le_of_ble_eq_true rfl) (by decide) rfl (c_X7_put N (gl Γ) C.2.2.2.2 (gw Γ) v1 v2 v3 m_4 _ hk_5) ?_
    refine g_iload C dX9_setScore_70 0 rfl ?_
    obtain rfl := Option.some.inj h
    exact (hE).1 _ rfl 3 (by decide) 72 _ dX9_setScore_72
  · exact g_xvV_th (mc' := 1) (As := [.int v1, .int v2]) (a := 0) (ci := 9) C dX9_setScore_35 mf_X9_checkReview k_405 rfl (by decide) ⟨by decide, by decide⟩ rfl rfl (Nat.le_of_ble_eq_true rfl) (by decide) rfl (c_X9_checkReview N (gl Γ) C.2.2.2.2 (gw Γ) v1 v2 m _ hk_2) (hE.2 _ rfl)
set_option maxRecDepth 100000 in
set_option maxHeartbeats 4000000 in
theorem t_X9_setScore_22 (N : Nat) (Γ : Gc) (C : Cx Γ cX9_setScore 5 RX9 (rmK 8 133 3)) (b : (Int32 ⊕ Nat) × Mem) (hE : EI Γ 5 cX9_setScore 3 b)  (m : Mem) (h : B_X9_setScore_22 N  m = some b) : G Γ 5 2 m 22 [] [] := by
  unfold B_X9_setScore_22 at h
  obtain rfl := Option.some.inj h
  exact g_throw (n := 22) C tf_1 dX9_setScore_22 dX9_setScore_25 dX9_setScore_26 dX9_setScore_28 dX9_setScore_31 (List.mem_of_getElem? (i := 22) rfl) (by decide) (Nat.le_of_ble_eq_true rfl) (by decide) ((hE).2 1 rfl)
set_option maxRecDepth 100000 in
set_option maxHeartbeats 4000000 in
theorem t_X9_setScore (N : Nat) (Γ : Gc) (C : Cx Γ cX9_setScore 5 RX9 (rmK 8 133 3)) (v1 : Int32) (v2 : Int32) (v3 : Int32) (m : Mem) (b : (Int32 ⊕ Nat) × Mem) (h : f_X9_setScore N v1 v2 v3 m = some b) (hE : EI Γ 5 cX9_setScore 3 b) : G Γ 5 0 m 0 [(0, .ref (oa (gw Γ) 0)), (1, .int v1), (2, .int v2), (3, .int v3)] [] := by
  unfold f_X9_setScore at h
  refine g_aload_n C dX9_setScore_0 0 rfl rfl ?_
  refine g_iload_n C dX9_setScore_1 1 rfl rfl ?_
  refine g_iload_n C dX9_setScore_2 2 rfl rfl ?_
  rcases x1_some h with ⟨m_1, hk_1, h⟩ | ⟨e_1, m_1, hk_1, rfl⟩
  · refine g_xvV_ok (mc' := 2) (As := [.int v1, .int v2]) (a := 0) (ci := 9) C dX9_setScore_3 mf_X9_checkPair k_372 rfl (by decide) ⟨by decide, by decide⟩ rfl rfl (Nat.le_of_ble_eq_true rfl) (by decide) rfl (c_X9_checkPair N (gl Γ) C.2.2.2.2 (gw Γ) v1 v2 m _ hk_1) ?_
    refine g_iload_n C dX9_setScore_6 3 rfl rfl ?_
    refine g_iconst (v := (-1 : Int32)) C dX9_setScore_7 (by decide) ?_
    refine g_icmp_eq (tgt := 32) C dX9_setScore_8 (by decide) (fun c_8 => ?_) (fun c_8 => ?_)
    · replace h := it_t c_8 h
      refine g_sub [0, 1, 2, 3] rfl ?_
      exact t_X9_setScore_32 N Γ C b hE v1 v2 v3 m_1 h
    · replace h := it_f c_8 h
      refine g_iload_n C dX9_setScore_11 3 rfl rfl ?_
      refine g_iconst (v := (1 : Int32)) C dX9_setScore_12 (by decide) ?_
      refine g_icmp_lt (tgt := 22) C dX9_setScore_13 (by decide) (fun c_7 => ?_) (fun c_7 => ?_)
      · replace h := it_t c_7 h
        refine g_sub [] rfl ?_
        exact t_X9_setScore_22 N Γ C b hE  m_1 h
      · replace h := it_f c_7 h
        refine g_iload_n C dX9_setScore_16 3 rfl rfl ?_
        refine g_bipush (v := (100 : Int32)) C dX9_setScore_17 (by decide) ?_
        refine g_icmp_le (tgt := 32) C dX9_setScore_19 (by decide) (fun c_6 => ?_) (fun c_6 => ?_)
        · replace h := it_t c_6 h
          refine g_sub [0, 1, 2, 3] rfl ?_
          exact t_X9_setScore_32 N Γ C b hE v1 v2 v3 m_1 h
        · replace h := it_f c_6 h
          refine g_sub [] rfl ?_
          exact t_X9_setScore_22 N Γ C b hE  m_1 h
  · exact g_xvV_th (mc' := 2) (As := [.int v1, .int v2]) (a := 0) (ci := 9) C dX9_setScore_3 mf_X9_checkPair k_372 rfl (by decide) ⟨by decide, by decide⟩ rfl rfl (Nat.le_of_ble_eq_true rfl) (by decide) rfl (c_X9_checkPair N (gl Γ) C.2.2.2.2 (gw Γ) v1 v2 m _ hk_1) (hE.2 _ rfl)
theorem c_X9_setScore (N : Nat) (l : Launch) (hst : l.stackTraces = false) (w : Om) (v1 : Int32) (v2 : Int32) (v3 : Int32) (m : Mem) (o : (Int32 ⊕ Nat) × Mem) (h : f_X9_setScore N v1 v2 v3 m = some o) : XI l yX9_setScore cX9_setScore 5 (some .int) 8 133 3 w [.ref (oa w 0), .int v1, .int v2, .int v3] m o := XI_of hst (by decide +kernel) RX9 rfl (Nat.le_of_ble_eq_true rfl) (fun Γ hw hl C hE => by
  subst hw; subst hl
  exact t_X9_setScore N Γ C v1 v2 v3 m o h hE)
set_option maxRecDepth 100000 in
set_option maxHeartbeats 4000000 in
theorem t_X9_checkScore (N : Nat) (Γ : Gc) (C : Cx Γ cX9_checkScore 3 RX9 (rmK 6 90 1)) (v1 : Int32) (v2 : Int32) (m : Mem) (b : (Unit ⊕ Nat) × Mem) (h : f_X9_checkScore N v1 v2 m = some b) (hE : EV Γ 3 cX9_checkScore 1 b) : G Γ 3 0 m 0 [(0, .ref (oa (gw Γ) 0)), (1, .int v1), (2, .int v2)] [] := by
  unfold f_X9_checkScore at h
  refine g_aload_n C dX9_checkScore_0 0 rfl rfl ?_
  refine g_getT (b := 3) (ci := 9) (j := 1) C dX9_checkScore_1 rfl (by decide) rfl inT_X9 (by decide) k_334 rfl rfl rfl rfl ?_
  refine g_iload_n C dX9_checkScore_4 1 rfl rfl ?_
  refine g_iload_n C dX9_checkScore_5 2 rfl rfl ?_
  obtain ⟨r_1, m_1, hk_1, h⟩ := b2_some h
  refine g_vI (As := [.int v1, .int v2]) (a := 3) (ci := 7) C dX9_checkScore_6 mf_X7_hasScore k_429 rfl (by decide) ⟨by decide, by decide⟩ rfl rfl (Nat.le_of_ble_eq_true rfl) (by decide) rfl (c_X7_hasScore N (gl Γ) C.2.2.2.2 (gw Γ) v1 v2 m _ hk_1) ?_
  refine g_if_ne (tgt := 23) C dX9_checkScore_9 (by decide) (fun c_2 => ?_) (fun c_2 => ?_)
  · replace h := it_f c_2 h
    obtain rfl := Option.some.inj h
    exact (hE).1 _ rfl 0 (by decide) 23 _ dX9_checkScore_23
  · replace h := it_t c_2 h
    obtain rfl := Option.some.inj h
    exact g_throwNW (n := 23) C  dX9_checkScore_12 dX9_checkScore_15 dX9_checkScore_16 dX9_checkScore_19 dX9_checkScore_22 (List.mem_of_getElem? (i := 23) rfl) (by decide) (Nat.le_of_ble_eq_true rfl) (by decide) ((hE).2 3 rfl)
theorem c_X9_checkScore (N : Nat) (l : Launch) (hst : l.stackTraces = false) (w : Om) (v1 : Int32) (v2 : Int32) (m : Mem) (o : (Unit ⊕ Nat) × Mem) (h : f_X9_checkScore N v1 v2 m = some o) : XV l yX9_checkScore cX9_checkScore 3 none 6 90 1 w [.ref (oa w 0), .int v1, .int v2] m o := XV_of hst (by decide +kernel) RX9 rfl (Nat.le_of_ble_eq_true rfl) (fun Γ hw hl C hE => by
  subst hw; subst hl
  exact t_X9_checkScore N Γ C v1 v2 m o h hE)
set_option maxRecDepth 100000 in
set_option maxHeartbeats 4000000 in
theorem t_X9_adjusted (N : Nat) (Γ : Gc) (C : Cx Γ cX9_adjusted 3 RX9 (rmK 8 133 3)) (v1 : Int32) (v2 : Int32) (m : Mem) (b : (Int32 ⊕ Nat) × Mem) (h : f_X9_adjusted N v1 v2 m = some b) (hE : EI Γ 3 cX9_adjusted 3 b) : G Γ 3 0 m 0 [(0, .ref (oa (gw Γ) 0)), (1, .int v1), (2, .int v2)] [] := by
  unfold f_X9_adjusted at h
  refine g_aload_n C dX9_adjusted_0 0 rfl rfl ?_
  refine g_iload_n C dX9_adjusted_1 1 rfl rfl ?_
  refine g_iload_n C dX9_adjusted_2 2 rfl rfl ?_
  rcases x1_some h with ⟨m_1, hk_1, h⟩ | ⟨e_1, m_1, hk_1, rfl⟩
  · refine g_xvV_ok (mc' := 2) (As := [.int v1, .int v2]) (a := 0) (ci := 9) C dX9_adjusted_3 mf_X9_checkPair k_372 rfl (by decide) ⟨by decide, by decide⟩ rfl rfl (Nat.le_of_ble_eq_true rfl) (by decide) rfl (c_X9_checkPair N (gl Γ) C.2.2.2.2 (gw Γ) v1 v2 m _ hk_1) ?_
    refine g_aload_n C dX9_adjusted_6 0 rfl rfl ?_
    refine g_iload_n C dX9_adjusted_7 1 rfl rfl ?_
    refine g_iload_n C dX9_adjusted_8 2 rfl rfl ?_
    rcases x1_some h with ⟨m_2, hk_2, h⟩ | ⟨e_2, m_2, hk_2, rfl⟩
    · refine g_xvV_ok (mc' := 1) (As := [.int v1, .int v2]) (a := 0) (ci := 9) C dX9_adjusted_9 mf_X9_checkScore k_430 rfl (by decide) ⟨by decide, by decide⟩ rfl rfl (Nat.le_of_ble_eq_true rfl) (by decide) rfl (c_X9_checkScore N (gl Γ) C.2.2.2.2 (gw Γ) v1 v2 m_1 _ hk_2) ?_
      refine g_aload_n C dX9_adjusted_12 0 rfl rfl ?_
      refine g_getT (b := 38) (ci := 9) (j := 3) C dX9_adjusted_13 rfl (by decide) rfl inT_X9 (by decide) k_434 rfl rfl rfl rfl ?_
      refine g_aload_n C dX9_adjusted_16 0 rfl rfl ?_
      refine g_getR (ci := 9) (j := 7) C dX9_adjusted_17 rfl (by decide) rfl inT_X9 (by decide) k_333 rfl rfl rfl ?_
      refine g_aload_n C dX9_adjusted_20 0 rfl rfl ?_
      refine g_getT (b := 3) (ci := 9) (j := 1) C dX9_adjusted_21 rfl (by decide) rfl inT_X9 (by decide) k_334 rfl rfl rfl rfl ?_
      obtain ⟨m_3, hk_3, h⟩ := b1_some h
      refine g_vV (As := [.ref (oa (gw Γ) (gR m_2 0 7)), .ref (oa (gw Γ) 3)]) (a := 38) (ci := 5) C dX9_adjusted_24 mf_X5_update k_435 rfl (by decide) ⟨by decide, by decide⟩ rfl rfl (Nat.le_of_ble_eq_true rfl) (by decide) rfl (c_X5_update N (gl Γ) C.2.2.2.2 (gw Γ) (gR m_2 0 7) m_2 _ hk_3) ?_
      refine g_aload_n C dX9_adjusted_27 0 rfl rfl ?_
      refine g_getT (b := 38) (ci := 9) (j := 3) C dX9_adjusted_28 rfl (by decide) rfl inT_X9 (by decide) k_434 rfl rfl rfl rfl ?_
      refine g_iload_n C dX9_adjusted_31 1 rfl rfl ?_
      refine g_aload_n C dX9_adjusted_32 0 rfl rfl ?_
      refine g_getT (b := 3) (ci := 9) (j := 1) C dX9_adjusted_33 rfl (by decide) rfl inT_X9 (by decide) k_334 rfl rfl rfl rfl ?_
      refine g_iload_n C dX9_adjusted_36 1 rfl rfl ?_
      refine g_iload_n C dX9_adjusted_37 2 rfl rfl ?_
      obtain ⟨r_4, m_4, hk_4, h⟩ := b2_some h
      refine g_vI (As := [.int v1, .int v2]) (a := 3) (ci := 7) C dX9_adjusted_38 mf_X7_scoreAt k_409 rfl (by decide) ⟨by decide, by decide⟩ rfl rfl (Nat.le_of_ble_eq_true rfl) (by decide) rfl (c_X7_scoreAt N (gl Γ) C.2.2.2.2 (gw Γ) v1 v2 m_3 _ hk_4) ?_
      obtain ⟨r_5, m_5, hk_5, h⟩ := b2_some h
      refine g_vI (As := [.int v1, .int r_4]) (a := 38) (ci := 5) C dX9_adjusted_41 mf_X5_adjustedScore k_439 rfl (by decide) ⟨by decide, by decide⟩ rfl rfl (Nat.le_of_ble_eq_true rfl) (by decide) rfl (c_X5_adjustedScore N (gl Γ) C.2.2.2.2 (gw Γ) v1 r_4 m_4 _ hk_5) ?_
      obtain rfl := Option.some.inj h
      exact (hE).1 _ rfl 3 (by decide) 44 _ dX9_adjusted_44
    · exact g_xvV_th (mc' := 1) (As := [.int v1, .int v2]) (a := 0) (ci := 9) C dX9_adjusted_9 mf_X9_checkScore k_430 rfl (by decide) ⟨by decide, by decide⟩ rfl rfl (Nat.le_of_ble_eq_true rfl) (by decide) rfl (c_X9_checkScore N (gl Γ) C.2.2.2.2 (gw Γ) v1 v2 m_1 _ hk_2) (hE.2 _ rfl)
  · exact g_xvV_th (mc' := 2) (As := [.int v1, .int v2]) (a := 0) (ci := 9) C dX9_adjusted_3 mf_X9_checkPair k_372 rfl (by decide) ⟨by decide, by decide⟩ rfl rfl (Nat.le_of_ble_eq_true rfl) (by decide) rfl (c_X9_checkPair N (gl Γ) C.2.2.2.2 (gw Γ) v1 v2 m _ hk_1) (hE.2 _ rfl)
theorem c_X9_adjusted (N : Nat) (l : Launch) (hst : l.stackTraces = false) (w : Om) (v1 : Int32) (v2 : Int32) (m : Mem) (o : (Int32 ⊕ Nat) × Mem) (h : f_X9_adjusted N v1 v2 m = some o) : XI l yX9_adjusted cX9_adjusted 3 (some .int) 8 133 3 w [.ref (oa w 0), .int v1, .int v2] m o := XI_of hst (by decide +kernel) RX9 rfl (Nat.le_of_ble_eq_true rfl) (fun Γ hw hl C hE => by
  subst hw; subst hl
  exact t_X9_adjusted N Γ C v1 v2 m o h hE)
set_option maxRecDepth 100000 in
set_option maxHeartbeats 4000000 in
theorem t_X9_checkRanked (N : Nat) (Γ : Gc) (C : Cx Γ cX9_checkRanked 2 RX9 (rmK 6 90 1)) (v1 : Int32) (m : Mem) (b : (Unit ⊕ Nat) × Mem) (h : f_X9_checkRanked N v1 m = some b) (hE : EV Γ 2 cX9_checkRanked 1 b) : G Γ 2 0 m 0 [(0, .ref (oa (gw Γ) 0)), (1, .int v1)] [] := by
  unfold f_X9_checkRanked at h
  refine g_aload_n C dX9_checkRanked_0 0 rfl rfl ?_
  refine g_getT (b := 38) (ci := 9) (j := 3) C dX9_checkRanked_1 rfl (by decide) rfl inT_X9 (by decide) k_434 rfl rfl rfl rfl ?_
  refine g_iload_n C dX9_checkRanked_4 1 rfl rfl ?_
  obtain ⟨r_1, m_1, hk_1, h⟩ := b2_some h
  refine g_vI (As := [.int v1]) (a := 38) (ci := 5) C dX9_checkRanked_5 mf_X5_isRanked k_440 rfl (by decide) ⟨by decide, by decide⟩ rfl rfl (Nat.le_of_ble_eq_true rfl) (by decide) rfl (c_X5_isRanked N (gl Γ) C.2.2.2.2 (gw Γ) v1 m _ hk_1) ?_
  refine g_if_ne (tgt := 22) C dX9_checkRanked_8 (by decide) (fun c_2 => ?_) (fun c_2 => ?_)
  · replace h := it_f c_2 h
    obtain rfl := Option.some.inj h
    exact (hE).1 _ rfl 0 (by decide) 22 _ dX9_checkRanked_22
  · replace h := it_t c_2 h
    obtain rfl := Option.some.inj h
    exact g_throwNW (n := 24) C  dX9_checkRanked_11 dX9_checkRanked_14 dX9_checkRanked_15 dX9_checkRanked_18 dX9_checkRanked_21 (List.mem_of_getElem? (i := 24) rfl) (by decide) (Nat.le_of_ble_eq_true rfl) (by decide) ((hE).2 3 rfl)
theorem c_X9_checkRanked (N : Nat) (l : Launch) (hst : l.stackTraces = false) (w : Om) (v1 : Int32) (m : Mem) (o : (Unit ⊕ Nat) × Mem) (h : f_X9_checkRanked N v1 m = some o) : XV l yX9_checkRanked cX9_checkRanked 2 none 6 90 1 w [.ref (oa w 0), .int v1] m o := XV_of hst (by decide +kernel) RX9 rfl (Nat.le_of_ble_eq_true rfl) (fun Γ hw hl C hE => by
  subst hw; subst hl
  exact t_X9_checkRanked N Γ C v1 m o h hE)
set_option maxRecDepth 100000 in
set_option maxHeartbeats 4000000 in
theorem t_X9_normalized (N : Nat) (Γ : Gc) (C : Cx Γ cX9_normalized 2 RX9 (rmK 7 116 2)) (v1 : Int32) (m : Mem) (b : (Int32 ⊕ Nat) × Mem) (h : f_X9_normalized N v1 m = some b) (hE : EI Γ 2 cX9_normalized 2 b) : G Γ 2 0 m 0 [(0, .ref (oa (gw Γ) 0)), (1, .int v1)] [] := by
  unfold f_X9_normalized at h
  refine g_aload_n C dX9_normalized_0 0 rfl rfl ?_
  refine g_iload_n C dX9_normalized_1 1 rfl rfl ?_
  rcases x1_some h with ⟨m_1, hk_1, h⟩ | ⟨e_1, m_1, hk_1, rfl⟩
  · refine g_xvV_ok (mc' := 1) (As := [.int v1]) (a := 0) (ci := 9) C dX9_normalized_2 mf_X9_checkProposal k_368 rfl (by decide) ⟨by decide, by decide⟩ rfl rfl (Nat.le_of_ble_eq_true rfl) (by decide) rfl (c_X9_checkProposal N (gl Γ) C.2.2.2.2 (gw Γ) v1 m _ hk_1) ?_
    refine g_aload_n C dX9_normalized_5 0 rfl rfl ?_
    refine g_getT (b := 38) (ci := 9) (j := 3) C dX9_normalized_6 rfl (by decide) rfl inT_X9 (by decide) k_434 rfl rfl rfl rfl ?_
    refine g_aload_n C dX9_normalized_9 0 rfl rfl ?_
    refine g_getR (ci := 9) (j := 7) C dX9_normalized_10 rfl (by decide) rfl inT_X9 (by decide) k_333 rfl rfl rfl ?_
    refine g_aload_n C dX9_normalized_13 0 rfl rfl ?_
    refine g_getT (b := 3) (ci := 9) (j := 1) C dX9_normalized_14 rfl (by decide) rfl inT_X9 (by decide) k_334 rfl rfl rfl rfl ?_
    obtain ⟨m_2, hk_2, h⟩ := b1_some h
    refine g_vV (As := [.ref (oa (gw Γ) (gR m_1 0 7)), .ref (oa (gw Γ) 3)]) (a := 38) (ci := 5) C dX9_normalized_17 mf_X5_update k_435 rfl (by decide) ⟨by decide, by decide⟩ rfl rfl (Nat.le_of_ble_eq_true rfl) (by decide) rfl (c_X5_update N (gl Γ) C.2.2.2.2 (gw Γ) (gR m_1 0 7) m_1 _ hk_2) ?_
    refine g_aload_n C dX9_normalized_20 0 rfl rfl ?_
    refine g_iload_n C dX9_normalized_21 1 rfl rfl ?_
    rcases x1_some h with ⟨m_3, hk_3, h⟩ | ⟨e_3, m_3, hk_3, rfl⟩
    · refine g_xvV_ok (mc' := 1) (As := [.int v1]) (a := 0) (ci := 9) C dX9_normalized_22 mf_X9_checkRanked k_441 rfl (by decide) ⟨by decide, by decide⟩ rfl rfl (Nat.le_of_ble_eq_true rfl) (by decide) rfl (c_X9_checkRanked N (gl Γ) C.2.2.2.2 (gw Γ) v1 m_2 _ hk_3) ?_
      refine g_aload_n C dX9_normalized_25 0 rfl rfl ?_
      refine g_getT (b := 38) (ci := 9) (j := 3) C dX9_normalized_26 rfl (by decide) rfl inT_X9 (by decide) k_434 rfl rfl rfl rfl ?_
      refine g_getT (b := 43) (ci := 5) (j := 4) C dX9_normalized_29 rfl (by decide) rfl inT_X5 (by decide) k_445 rfl rfl rfl rfl ?_
      refine g_iload_n C dX9_normalized_32 1 rfl rfl ?_
      obtain ⟨g_4, h⟩ := gd_some h
      refine g_iald C dX9_normalized_33 (okA_of rfl rfl g_4) ?_
      obtain rfl := Option.some.inj h
      exact (hE).1 _ rfl 2 (by decide) 34 _ dX9_normalized_34
    · exact g_xvV_th (mc' := 1) (As := [.int v1]) (a := 0) (ci := 9) C dX9_normalized_22 mf_X9_checkRanked k_441 rfl (by decide) ⟨by decide, by decide⟩ rfl rfl (Nat.le_of_ble_eq_true rfl) (by decide) rfl (c_X9_checkRanked N (gl Γ) C.2.2.2.2 (gw Γ) v1 m_2 _ hk_3) (hE.2 _ rfl)
  · exact g_xvV_th (mc' := 1) (As := [.int v1]) (a := 0) (ci := 9) C dX9_normalized_2 mf_X9_checkProposal k_368 rfl (by decide) ⟨by decide, by decide⟩ rfl rfl (Nat.le_of_ble_eq_true rfl) (by decide) rfl (c_X9_checkProposal N (gl Γ) C.2.2.2.2 (gw Γ) v1 m _ hk_1) (hE.2 _ rfl)
theorem c_X9_normalized (N : Nat) (l : Launch) (hst : l.stackTraces = false) (w : Om) (v1 : Int32) (m : Mem) (o : (Int32 ⊕ Nat) × Mem) (h : f_X9_normalized N v1 m = some o) : XI l yX9_normalized cX9_normalized 2 (some .int) 7 116 2 w [.ref (oa w 0), .int v1] m o := XI_of hst (by decide +kernel) RX9 rfl (Nat.le_of_ble_eq_true rfl) (fun Γ hw hl C hE => by
  subst hw; subst hl
  exact t_X9_normalized N Γ C v1 m o h hE)
def Ex_X9_leniency_38 (Γ : Gc) (cs : Nat) (b : Int32 × Int32 × Int32 × Int32 × Mem) : Prop := (∀ (y1 : Int32) (y2 : Int32) (y3 : Int32) (y4 : Int32) (m' : Mem), b = (y1, y2, y3, y4, m') → G Γ 6 cs m' 106 [(0, .ref (oa (gw Γ) 0)), (1, .int y1), (2, .int y2), (3, .int y3), (4, .int y4)] [])
set_option maxRecDepth 100000 in
set_option maxHeartbeats 4000000 in
theorem t_X9_leniency_38 (N : Nat) (Γ : Gc) (C : Cx Γ cX9_leniency 6 RX9 (rmK 7 116 2)) (rc : Int32 → Int32 → Int32 → Int32 → Int32 → Mem → Option (Int32 × Int32 × Int32 × Int32 × Mem)) (b : Int32 × Int32 × Int32 × Int32 × Mem) (hE : Ex_X9_leniency_38 Γ 1 b) (hrec : ∀ (v1 : Int32) (v2 : Int32) (v3 : Int32) (v4 : Int32) (v5 : Int32) (m : Mem) (b : Int32 × Int32 × Int32 × Int32 × Mem), rc v1 v2 v3 v4 v5 m = some b → Ex_X9_leniency_38 Γ 1 b → G Γ 6 1 m 38 [(0, .ref (oa (gw Γ) 0)), (1, .int v1), (2, .int v2), (3, .int v3), (4, .int v4), (5, .int v5)] []) (v1 : Int32) (v2 : Int32) (v3 : Int32) (v4 : Int32) (v5 : Int32) (m : Mem) (h : T_X9_leniency_38 N rc v1 v2 v3 v4 v5 m = some b) : G Γ 6 1 m 38 [(0, .ref (oa (gw Γ) 0)), (1, .int v1), (2, .int v2), (3, .int v3), (4, .int v4), (5, .int v5)] [] := by
  unfold T_X9_leniency_38 at h
  refine g_iload C dX9_leniency_38 5 rfl ?_
  refine g_aload_n C dX9_leniency_40 0 rfl rfl ?_
  refine g_getR (ci := 9) (j := 7) C dX9_leniency_41 rfl (by decide) rfl inT_X9 (by decide) k_333 rfl rfl rfl ?_
  obtain ⟨g_4, h⟩ := gd_some h
  refine g_getI (ci := 6) (j := 1) C dX9_leniency_44 rfl (by decide) rfl inT_X6 (by decide) k_349 rfl g_4 ?_
  refine g_icmp_ge (tgt := 106) C dX9_leniency_47 (by decide) (fun c_9 => ?_) (fun c_9 => ?_)
  · replace h := it_t c_9 h
    obtain rfl := Option.some.inj h
    refine g_sub [0, 1, 2, 3, 4] rfl ?_
    exact hE _ _ _ _ _ rfl
  · replace h := it_f c_9 h
    refine g_aload_n C dX9_leniency_50 0 rfl rfl ?_
    refine g_getR (ci := 9) (j := 7) C dX9_leniency_51 rfl (by decide) rfl inT_X9 (by decide) k_333 rfl rfl rfl ?_
    refine g_getT (b := rt (gR m 0 7) 4) (ci := 6) (j := 4) C dX9_leniency_54 rfl (by decide) rfl inT_X6 (by decide) k_112 rfl rfl rfl g_4 ?_
    refine g_iload C dX9_leniency_57 5 rfl ?_
    obtain ⟨g_5, h⟩ := gd_some h
    refine g_iald C dX9_leniency_59 g_5 ?_
    refine g_aload_n C dX9_leniency_60 0 rfl rfl ?_
    refine g_getR (ci := 9) (j := 7) C dX9_leniency_61 rfl (by decide) rfl inT_X9 (by decide) k_333 rfl rfl rfl ?_
    refine g_getT (b := rt (gR m 0 7) 4) (ci := 6) (j := 4) C dX9_leniency_64 rfl (by decide) rfl inT_X6 (by decide) k_112 rfl rfl rfl g_4 ?_
    refine g_iload_n C dX9_leniency_67 1 rfl rfl ?_
    obtain ⟨g_6, h⟩ := gd_some h
    refine g_iald C dX9_leniency_68 g_6 ?_
    refine g_icmp_ne (tgt := 100) C dX9_leniency_69 (by decide) (fun c_8 => ?_) (fun c_8 => ?_)
    · replace h := it_f c_8 h
      refine g_iinc (q := 5) (v := v5 + (1 : Int32)) (lv' := [(5, .int (v5 + (1 : Int32))), (0, .ref (oa (gw Γ) 0)), (1, .int v1), (2, .int v2), (3, .int v3), (4, .int v4)]) C dX9_leniency_100 rfl rfl (by decide) rfl ?_
      refine g_goto (tgt := 38) C dX9_leniency_103 (by decide) ?_
      refine g_sub [1, 2, 3, 4, 5, 0] rfl ?_
      exact hrec v1 v2 v3 v4 (v5 + (1 : Int32)) m b h hE
    · replace h := it_t c_8 h
      refine g_iload_n C dX9_leniency_72 3 rfl rfl ?_
      refine g_aload_n C dX9_leniency_73 0 rfl rfl ?_
      refine g_getT (b := 38) (ci := 9) (j := 3) C dX9_leniency_74 rfl (by decide) rfl inT_X9 (by decide) k_434 rfl rfl rfl rfl ?_
      refine g_getT (b := 39) (ci := 5) (j := 0) C dX9_leniency_77 rfl (by decide) rfl inT_X5 (by decide) k_446 rfl rfl rfl rfl ?_
      refine g_iload C dX9_leniency_80 5 rfl ?_
      obtain ⟨g_7, h⟩ := gd_some h
      refine g_iald C dX9_leniency_82 (okA_of rfl rfl g_7) ?_
      refine g_iadd C dX9_leniency_83 ?_
      refine g_istore_n (lv' := [(3, .int (v3 + (gI m 39 v5.toNatClampNeg))), (0, .ref (oa (gw Γ) 0)), (1, .int v1), (2, .int v2), (4, .int v4), (5, .int v5)]) C dX9_leniency_84 rfl (by decide) rfl ?_
      refine g_iload C dX9_leniency_85 4 rfl ?_
      refine g_aload_n C dX9_leniency_87 1 rfl rfl ?_
      refine g_getT (b := 38) (ci := 9) (j := 3) C dX9_leniency_88 rfl (by decide) rfl inT_X9 (by decide) k_434 rfl rfl rfl rfl ?_
      refine g_getT (b := 40) (ci := 5) (j := 1) C dX9_leniency_91 rfl (by decide) rfl inT_X5 (by decide) k_447 rfl rfl rfl rfl ?_
      refine g_iload C dX9_leniency_94 5 rfl ?_
      refine g_iald C dX9_leniency_96 (okA_of rfl rfl g_7) ?_
      refine g_iadd C dX9_leniency_97 ?_
      refine g_istore (lv' := [(4, .int (v4 + (gI m 40 v5.toNatClampNeg))), (3, .int (v3 + (gI m 39 v5.toNatClampNeg))), (0, .ref (oa (gw Γ) 0)), (1, .int v1), (2, .int v2), (5, .int v5)]) C dX9_leniency_98 (by decide) rfl ?_
      refine g_iinc (q := 5) (v := v5 + (1 : Int32)) (lv' := [(5, .int (v5 + (1 : Int32))), (4, .int (v4 + (gI m 40 v5.toNatClampNeg))), (3, .int (v3 + (gI m 39 v5.toNatClampNeg))), (0, .ref (oa (gw Γ) 0)), (1, .int v1), (2, .int v2)]) C dX9_leniency_100 rfl rfl (by decide) rfl ?_
      refine g_goto (tgt := 38) C dX9_leniency_103 (by decide) ?_
      refine g_sub [3, 4, 5, 2, 1, 0] rfl ?_
      exact hrec v1 v2 (v3 + (gI m 39 v5.toNatClampNeg)) (v4 + (gI m 40 v5.toNatClampNeg)) (v5 + (1 : Int32)) m b h hE
theorem lt_X9_leniency_38 (N : Nat) (Γ : Gc) (C : Cx Γ cX9_leniency 6 RX9 (rmK 7 116 2)) : ∀ (n : Nat) (v1 : Int32) (v2 : Int32) (v3 : Int32) (v4 : Int32) (v5 : Int32) (m : Mem) (b : Int32 × Int32 × Int32 × Int32 × Mem), L_X9_leniency_38 N n v1 v2 v3 v4 v5 m = some b → Ex_X9_leniency_38 Γ 1 b → G Γ 6 1 m 38 [(0, .ref (oa (gw Γ) 0)), (1, .int v1), (2, .int v2), (3, .int v3), (4, .int v4), (5, .int v5)] [] := by
  intro n
  induction n with
  | zero =>
    intro v1 v2 v3 v4 v5 m b h
    have h9 : (none : Option (Int32 × Int32 × Int32 × Int32 × Mem)) = some b := h
    cases h9
  | succ n ih => intro v1 v2 v3 v4 v5 m b h hE; exact t_X9_leniency_38 N Γ C (L_X9_leniency_38 N n) b hE ih v1 v2 v3 v4 v5 m h
set_option maxRecDepth 100000 in
set_option maxHeartbeats 4000000 in
theorem t_X9_leniency_114 (N : Nat) (Γ : Gc) (C : Cx Γ cX9_leniency 6 RX9 (rmK 7 116 2)) (b : (UInt64 ⊕ Nat) × Mem) (hE : ED Γ 6 cX9_leniency 2 b)  (m : Mem) (h : B_X9_leniency_114 N  m = some b) : G Γ 6 1 m 114 [] [] := by
  unfold B_X9_leniency_114 at h
  obtain rfl := Option.some.inj h
  exact g_throwN (n := 25) C  dX9_leniency_114 dX9_leniency_117 dX9_leniency_118 dX9_leniency_120 dX9_leniency_123 (List.mem_of_getElem? (i := 25) rfl) (by decide) (Nat.le_of_ble_eq_true rfl) (by decide) ((hE).2 3 rfl)
set_option maxRecDepth 100000 in
set_option maxHeartbeats 4000000 in
theorem t_X9_leniency (N : Nat) (Γ : Gc) (C : Cx Γ cX9_leniency 6 RX9 (rmK 7 116 2)) (v1 : Int32) (m : Mem) (b : (UInt64 ⊕ Nat) × Mem) (h : f_X9_leniency N v1 m = some b) (hE : ED Γ 6 cX9_leniency 2 b) : G Γ 6 0 m 0 [(0, .ref (oa (gw Γ) 0)), (1, .int v1)] [] := by
  unfold f_X9_leniency at h
  refine g_aload_n C dX9_leniency_0 0 rfl rfl ?_
  refine g_iload_n C dX9_leniency_1 1 rfl rfl ?_
  rcases x1_some h with ⟨m_1, hk_1, h⟩ | ⟨e_1, m_1, hk_1, rfl⟩
  · refine g_xvV_ok (mc' := 1) (As := [.int v1]) (a := 0) (ci := 9) C dX9_leniency_2 mf_X9_checkReviewer k_364 rfl (by decide) ⟨by decide, by decide⟩ rfl rfl (Nat.le_of_ble_eq_true rfl) (by decide) rfl (c_X9_checkReviewer N (gl Γ) C.2.2.2.2 (gw Γ) v1 m _ hk_1) ?_
    refine g_aload_n C dX9_leniency_5 0 rfl rfl ?_
    refine g_getT (b := 38) (ci := 9) (j := 3) C dX9_leniency_6 rfl (by decide) rfl inT_X9 (by decide) k_434 rfl rfl rfl rfl ?_
    refine g_aload_n C dX9_leniency_9 0 rfl rfl ?_
    refine g_getR (ci := 9) (j := 7) C dX9_leniency_10 rfl (by decide) rfl inT_X9 (by decide) k_333 rfl rfl rfl ?_
    refine g_aload_n C dX9_leniency_13 0 rfl rfl ?_
    refine g_getT (b := 3) (ci := 9) (j := 1) C dX9_leniency_14 rfl (by decide) rfl inT_X9 (by decide) k_334 rfl rfl rfl rfl ?_
    obtain ⟨m_2, hk_2, h⟩ := b1_some h
    refine g_vV (As := [.ref (oa (gw Γ) (gR m_1 0 7)), .ref (oa (gw Γ) 3)]) (a := 38) (ci := 5) C dX9_leniency_17 mf_X5_update k_435 rfl (by decide) ⟨by decide, by decide⟩ rfl rfl (Nat.le_of_ble_eq_true rfl) (by decide) rfl (c_X5_update N (gl Γ) C.2.2.2.2 (gw Γ) (gR m_1 0 7) m_1 _ hk_2) ?_
    refine g_aload_n C dX9_leniency_20 0 rfl rfl ?_
    refine g_getT (b := 38) (ci := 9) (j := 3) C dX9_leniency_21 rfl (by decide) rfl inT_X9 (by decide) k_434 rfl rfl rfl rfl ?_
    refine g_getT (b := 39) (ci := 5) (j := 0) C dX9_leniency_24 rfl (by decide) rfl inT_X5 (by decide) k_446 rfl rfl rfl rfl ?_
    refine g_iload_n C dX9_leniency_27 1 rfl rfl ?_
    obtain ⟨g_3, h⟩ := gd_some h
    refine g_iald C dX9_leniency_28 (okA_of rfl rfl g_3) ?_
    refine g_istore_n (lv' := [(2, .int (gI m_2 39 v1.toNatClampNeg)), (0, .ref (oa (gw Γ) 0)), (1, .int v1)]) C dX9_leniency_29 rfl (by decide) rfl ?_
    refine g_iconst (v := (0 : Int32)) C dX9_leniency_30 (by decide) ?_
    refine g_istore_n (lv' := [(3, .int (0 : Int32)), (2, .int (gI m_2 39 v1.toNatClampNeg)), (0, .ref (oa (gw Γ) 0)), (1, .int v1)]) C dX9_leniency_31 rfl (by decide) rfl ?_
    refine g_iconst (v := (0 : Int32)) C dX9_leniency_32 (by decide) ?_
    refine g_istore (lv' := [(4, .int (0 : Int32)), (3, .int (0 : Int32)), (2, .int (gI m_2 39 v1.toNatClampNeg)), (0, .ref (oa (gw Γ) 0)), (1, .int v1)]) C dX9_leniency_33 (by decide) rfl ?_
    refine g_iconst (v := (0 : Int32)) C dX9_leniency_35 (by decide) ?_
    refine g_istore (lv' := [(5, .int (0 : Int32)), (4, .int (0 : Int32)), (3, .int (0 : Int32)), (2, .int (gI m_2 39 v1.toNatClampNeg)), (0, .ref (oa (gw Γ) 0)), (1, .int v1)]) C dX9_leniency_36 (by decide) rfl ?_
    obtain ⟨v1_10, v2_10, v3_10, v4_10, m_10, hx, h⟩ := l5_some h
    refine g_sub [4, 5, 3, 2, 1, 0] rfl ?_
    refine lt_X9_leniency_38 N Γ C N v1 (gI m_2 39 v1.toNatClampNeg) (0 : Int32) (0 : Int32) (0 : Int32) m_2 _ hx ?_
    intro z1 z2 z3 z4 m9 e9
    cases e9
    refine g_iload_n C dX9_leniency_106 2 rfl rfl ?_
    refine g_if_eq (tgt := 114) C dX9_leniency_107 (by decide) (fun c_16 => ?_) (fun c_16 => ?_)
    · replace h := it_t c_16 h
      refine g_sub [] rfl ?_
      exact t_X9_leniency_114 N Γ C b hE  m_10 h
    · replace h := it_f c_16 h
      refine g_iload_n C dX9_leniency_110 3 rfl rfl ?_
      refine g_if_ne (tgt := 124) C dX9_leniency_111 (by decide) (fun c_15 => ?_) (fun c_15 => ?_)
      · replace h := it_f c_15 h
        refine g_aload_n C dX9_leniency_124 0 rfl rfl ?_
        refine g_getT (b := 38) (ci := 9) (j := 3) C dX9_leniency_125 rfl (by decide) rfl inT_X9 (by decide) k_434 rfl rfl rfl rfl ?_
        refine g_getT (b := 40) (ci := 5) (j := 1) C dX9_leniency_128 rfl (by decide) rfl inT_X5 (by decide) k_447 rfl rfl rfl rfl ?_
        refine g_iload_n C dX9_leniency_131 1 rfl rfl ?_
        obtain ⟨g_11, h⟩ := gd_some h
        refine g_iald C dX9_leniency_132 (okA_of rfl rfl g_11) ?_
        refine g_i2d C dX9_leniency_133 ?_
        refine g_iload_n C dX9_leniency_134 2 rfl rfl ?_
        refine g_i2d C dX9_leniency_135 ?_
        obtain ⟨g_12, h⟩ := gd_some h
        refine g_ddiv C dX9_leniency_136 g_12 ?_
        refine g_iload C dX9_leniency_137 4 rfl ?_
        refine g_i2d C dX9_leniency_139 ?_
        refine g_iload_n C dX9_leniency_140 3 rfl rfl ?_
        refine g_i2d C dX9_leniency_141 ?_
        obtain ⟨g_13, h⟩ := gd_some h
        refine g_ddiv C dX9_leniency_142 g_13 ?_
        obtain ⟨g_14, h⟩ := gd_some h
        refine g_dsub C dX9_leniency_143 g_14 ?_
        obtain rfl := Option.some.inj h
        exact (hE).1 _ rfl 1 (by decide) 144 _ dX9_leniency_144
      · replace h := it_t c_15 h
        refine g_sub [] rfl ?_
        exact t_X9_leniency_114 N Γ C b hE  m_10 h
  · exact g_xvV_th (mc' := 1) (As := [.int v1]) (a := 0) (ci := 9) C dX9_leniency_2 mf_X9_checkReviewer k_364 rfl (by decide) ⟨by decide, by decide⟩ rfl rfl (Nat.le_of_ble_eq_true rfl) (by decide) rfl (c_X9_checkReviewer N (gl Γ) C.2.2.2.2 (gw Γ) v1 m _ hk_1) (hE.2 _ rfl)
theorem c_X9_leniency (N : Nat) (l : Launch) (hst : l.stackTraces = false) (w : Om) (v1 : Int32) (m : Mem) (o : (UInt64 ⊕ Nat) × Mem) (h : f_X9_leniency N v1 m = some o) : XD l yX9_leniency cX9_leniency 6 (some .double) 7 116 2 w [.ref (oa w 0), .int v1] m o := XD_of hst (by decide +kernel) RX9 rfl (Nat.le_of_ble_eq_true rfl) (fun Γ hw hl C hE => by
  subst hw; subst hl
  exact t_X9_leniency N Γ C v1 m o h hE)
def Ex_X9_disagreement_27 (Γ : Gc) (cs : Nat) (b : Int32 × Int32 × Int32 × Int32 × Mem) : Prop := (∀ (y1 : Int32) (y2 : Int32) (y3 : Int32) (y4 : Int32) (m' : Mem), b = (y1, y2, y3, y4, m') → G Γ 6 cs m' 96 [(0, .ref (oa (gw Γ) 0)), (1, .int y1), (2, .int y2), (3, .int y3), (4, .int y4)] [])
set_option maxRecDepth 100000 in
set_option maxHeartbeats 4000000 in
theorem t_X9_disagreement_27 (N : Nat) (Γ : Gc) (C : Cx Γ cX9_disagreement 6 RX9 (rmK 7 111 2)) (rc : Int32 → Int32 → Int32 → Int32 → Int32 → Mem → Option (Int32 × Int32 × Int32 × Int32 × Mem)) (b : Int32 × Int32 × Int32 × Int32 × Mem) (hE : Ex_X9_disagreement_27 Γ 1 b) (hrec : ∀ (v1 : Int32) (v2 : Int32) (v3 : Int32) (v4 : Int32) (v5 : Int32) (m : Mem) (b : Int32 × Int32 × Int32 × Int32 × Mem), rc v1 v2 v3 v4 v5 m = some b → Ex_X9_disagreement_27 Γ 1 b → G Γ 6 1 m 27 [(0, .ref (oa (gw Γ) 0)), (1, .int v1), (2, .int v2), (3, .int v3), (4, .int v4), (5, .int v5)] []) (v1 : Int32) (v2 : Int32) (v3 : Int32) (v4 : Int32) (v5 : Int32) (m : Mem) (h : T_X9_disagreement_27 N rc v1 v2 v3 v4 v5 m = some b) : G Γ 6 1 m 27 [(0, .ref (oa (gw Γ) 0)), (1, .int v1), (2, .int v2), (3, .int v3), (4, .int v4), (5, .int v5)] [] := by
  unfold T_X9_disagreement_27 at h
  refine g_iload C dX9_disagreement_27 5 rfl ?_
  refine g_iload C dX9_disagreement_29 4 rfl ?_
  refine g_icmp_ge (tgt := 96) C dX9_disagreement_31 (by decide) (fun c_9 => ?_) (fun c_9 => ?_)
  · replace h := it_t c_9 h
    obtain rfl := Option.some.inj h
    refine g_sub [0, 1, 2, 3, 4] rfl ?_
    exact hE _ _ _ _ _ rfl
  · replace h := it_f c_9 h
    refine g_aload_n C dX9_disagreement_34 0 rfl rfl ?_
    refine g_getT (b := 3) (ci := 9) (j := 1) C dX9_disagreement_35 rfl (by decide) rfl inT_X9 (by decide) k_334 rfl rfl rfl rfl ?_
    refine g_iload C dX9_disagreement_38 4 rfl ?_
    refine g_iload_n C dX9_disagreement_40 1 rfl rfl ?_
    obtain ⟨r_3, m_3, hk_3, h⟩ := b2_some h
    refine g_vI (As := [.int v4, .int v1]) (a := 3) (ci := 7) C dX9_disagreement_41 mf_X7_hasScore k_429 rfl (by decide) ⟨by decide, by decide⟩ rfl rfl (Nat.le_of_ble_eq_true rfl) (by decide) rfl (c_X7_hasScore N (gl Γ) C.2.2.2.2 (gw Γ) v4 v1 m _ hk_3) ?_
    refine g_if_eq (tgt := 90) C dX9_disagreement_44 (by decide) (fun c_8 => ?_) (fun c_8 => ?_)
    · replace h := it_t c_8 h
      refine g_iinc (q := 5) (v := v5 + (1 : Int32)) (lv' := [(5, .int (v5 + (1 : Int32))), (0, .ref (oa (gw Γ) 0)), (1, .int v1), (2, .int v2), (3, .int v3), (4, .int v4)]) C dX9_disagreement_90 rfl rfl (by decide) rfl ?_
      refine g_goto (tgt := 27) C dX9_disagreement_93 (by decide) ?_
      refine g_sub [1, 2, 3, 4, 5, 0] rfl ?_
      exact hrec v1 v2 v3 v4 (v5 + (1 : Int32)) m_3 b h hE
    · replace h := it_f c_8 h
      refine g_aload_n C dX9_disagreement_47 0 rfl rfl ?_
      refine g_getT (b := 3) (ci := 9) (j := 1) C dX9_disagreement_48 rfl (by decide) rfl inT_X9 (by decide) k_334 rfl rfl rfl rfl ?_
      refine g_iload C dX9_disagreement_51 5 rfl ?_
      refine g_iload_n C dX9_disagreement_53 1 rfl rfl ?_
      obtain ⟨r_4, m_4, hk_4, h⟩ := b2_some h
      refine g_vI (As := [.int v5, .int v1]) (a := 3) (ci := 7) C dX9_disagreement_54 mf_X7_hasScore k_429 rfl (by decide) ⟨by decide, by decide⟩ rfl rfl (Nat.le_of_ble_eq_true rfl) (by decide) rfl (c_X7_hasScore N (gl Γ) C.2.2.2.2 (gw Γ) v5 v1 m_3 _ hk_4) ?_
      refine g_if_eq (tgt := 90) C dX9_disagreement_57 (by decide) (fun c_7 => ?_) (fun c_7 => ?_)
      · replace h := it_t c_7 h
        refine g_iinc (q := 5) (v := v5 + (1 : Int32)) (lv' := [(5, .int (v5 + (1 : Int32))), (0, .ref (oa (gw Γ) 0)), (1, .int v1), (2, .int v2), (3, .int v3), (4, .int v4)]) C dX9_disagreement_90 rfl rfl (by decide) rfl ?_
        refine g_goto (tgt := 27) C dX9_disagreement_93 (by decide) ?_
        refine g_sub [1, 2, 3, 4, 5, 0] rfl ?_
        exact hrec v1 v2 v3 v4 (v5 + (1 : Int32)) m_4 b h hE
      · replace h := it_f c_7 h
        refine g_iinc (q := 2) (v := v2 + (1 : Int32)) (lv' := [(2, .int (v2 + (1 : Int32))), (0, .ref (oa (gw Γ) 0)), (1, .int v1), (3, .int v3), (4, .int v4), (5, .int v5)]) C dX9_disagreement_60 rfl rfl (by decide) rfl ?_
        refine g_iload_n C dX9_disagreement_63 3 rfl rfl ?_
        refine g_aload_n C dX9_disagreement_64 1 rfl rfl ?_
        refine g_getT (b := 3) (ci := 9) (j := 1) C dX9_disagreement_65 rfl (by decide) rfl inT_X9 (by decide) k_334 rfl rfl rfl rfl ?_
        refine g_iload C dX9_disagreement_68 4 rfl ?_
        refine g_iload_n C dX9_disagreement_70 2 rfl rfl ?_
        obtain ⟨r_5, m_5, hk_5, h⟩ := b2_some h
        refine g_vI (As := [.int v4, .int v1]) (a := 3) (ci := 7) C dX9_disagreement_71 mf_X7_scoreAt k_409 rfl (by decide) ⟨by decide, by decide⟩ rfl rfl (Nat.le_of_ble_eq_true rfl) (by decide) rfl (c_X7_scoreAt N (gl Γ) C.2.2.2.2 (gw Γ) v4 v1 m_4 _ hk_5) ?_
        refine g_aload_n C dX9_disagreement_74 1 rfl rfl ?_
        refine g_getT (b := 3) (ci := 9) (j := 1) C dX9_disagreement_75 rfl (by decide) rfl inT_X9 (by decide) k_334 rfl rfl rfl rfl ?_
        refine g_iload C dX9_disagreement_78 5 rfl ?_
        refine g_iload_n C dX9_disagreement_80 2 rfl rfl ?_
        obtain ⟨r_6, m_6, hk_6, h⟩ := b2_some h
        refine g_vI (As := [.int v5, .int v1]) (a := 3) (ci := 7) C dX9_disagreement_81 mf_X7_scoreAt k_409 rfl (by decide) ⟨by decide, by decide⟩ rfl rfl (Nat.le_of_ble_eq_true rfl) (by decide) rfl (c_X7_scoreAt N (gl Γ) C.2.2.2.2 (gw Γ) v5 v1 m_5 _ hk_6) ?_
        refine g_isub C dX9_disagreement_84 ?_
        refine g_abs C dX9_disagreement_85 k_448 k_189 k_61 k_190 (by decide) (Nat.le_of_ble_eq_true rfl) (by decide) ?_
        refine g_iadd C dX9_disagreement_88 ?_
        refine g_istore_n (lv' := [(3, .int (v3 + (if 0 ≤ (r_5 - r_6) then (r_5 - r_6) else 0 - (r_5 - r_6)))), (2, .int (v2 + (1 : Int32))), (0, .ref (oa (gw Γ) 0)), (1, .int v1), (4, .int v4), (5, .int v5)]) C dX9_disagreement_89 rfl (by decide) rfl ?_
        refine g_iinc (q := 5) (v := v5 + (1 : Int32)) (lv' := [(5, .int (v5 + (1 : Int32))), (3, .int (v3 + (if 0 ≤ (r_5 - r_6) then (r_5 - r_6) else 0 - (r_5 - r_6)))), (2, .int (v2 + (1 : Int32))), (0, .ref (oa (gw Γ) 0)), (1, .int v1), (4, .int v4)]) C dX9_disagreement_90 rfl rfl (by decide) rfl ?_
        refine g_goto (tgt := 27) C dX9_disagreement_93 (by decide) ?_
        refine g_sub [3, 4, 2, 1, 5, 0] rfl ?_
        exact hrec v1 (v2 + (1 : Int32)) (v3 + (if 0 ≤ (r_5 - r_6) then (r_5 - r_6) else 0 - (r_5 - r_6))) v4 (v5 + (1 : Int32)) m_6 b h hE
theorem lt_X9_disagreement_27 (N : Nat) (Γ : Gc) (C : Cx Γ cX9_disagreement 6 RX9 (rmK 7 111 2)) : ∀ (n : Nat) (v1 : Int32) (v2 : Int32) (v3 : Int32) (v4 : Int32) (v5 : Int32) (m : Mem) (b : Int32 × Int32 × Int32 × Int32 × Mem), L_X9_disagreement_27 N n v1 v2 v3 v4 v5 m = some b → Ex_X9_disagreement_27 Γ 1 b → G Γ 6 1 m 27 [(0, .ref (oa (gw Γ) 0)), (1, .int v1), (2, .int v2), (3, .int v3), (4, .int v4), (5, .int v5)] [] := by
  intro n
  induction n with
  | zero =>
    intro v1 v2 v3 v4 v5 m b h
    have h9 : (none : Option (Int32 × Int32 × Int32 × Int32 × Mem)) = some b := h
    cases h9
  | succ n ih => intro v1 v2 v3 v4 v5 m b h hE; exact t_X9_disagreement_27 N Γ C (L_X9_disagreement_27 N n) b hE ih v1 v2 v3 v4 v5 m h
def Ex_X9_disagreement_12 (Γ : Gc) (cs : Nat) (b : Int32 × Int32 × Mem) : Prop := (∀ (y2 : Int32) (y3 : Int32) (m' : Mem), b = (y2, y3, m') → G Γ 6 cs m' 102 [(2, .int y2), (3, .int y3)] [])
set_option maxRecDepth 100000 in
set_option maxHeartbeats 4000000 in
theorem t_X9_disagreement_12 (N : Nat) (Γ : Gc) (C : Cx Γ cX9_disagreement 6 RX9 (rmK 7 111 2)) (rc : Int32 → Int32 → Int32 → Int32 → Mem → Option (Int32 × Int32 × Mem)) (b : Int32 × Int32 × Mem) (hE : Ex_X9_disagreement_12 Γ 1 b) (hrec : ∀ (v1 : Int32) (v2 : Int32) (v3 : Int32) (v4 : Int32) (m : Mem) (b : Int32 × Int32 × Mem), rc v1 v2 v3 v4 m = some b → Ex_X9_disagreement_12 Γ 1 b → G Γ 6 1 m 12 [(0, .ref (oa (gw Γ) 0)), (1, .int v1), (2, .int v2), (3, .int v3), (4, .int v4)] []) (v1 : Int32) (v2 : Int32) (v3 : Int32) (v4 : Int32) (m : Mem) (h : T_X9_disagreement_12 N rc v1 v2 v3 v4 m = some b) : G Γ 6 1 m 12 [(0, .ref (oa (gw Γ) 0)), (1, .int v1), (2, .int v2), (3, .int v3), (4, .int v4)] [] := by
  unfold T_X9_disagreement_12 at h
  refine g_iload C dX9_disagreement_12 4 rfl ?_
  refine g_aload_n C dX9_disagreement_14 0 rfl rfl ?_
  refine g_getR (ci := 9) (j := 7) C dX9_disagreement_15 rfl (by decide) rfl inT_X9 (by decide) k_333 rfl rfl rfl ?_
  obtain ⟨g_2, h⟩ := gd_some h
  refine g_getI (ci := 6) (j := 1) C dX9_disagreement_18 rfl (by decide) rfl inT_X6 (by decide) k_349 rfl g_2 ?_
  refine g_icmp_ge (tgt := 102) C dX9_disagreement_21 (by decide) (fun c_11 => ?_) (fun c_11 => ?_)
  · replace h := it_t c_11 h
    obtain rfl := Option.some.inj h
    refine g_sub [2, 3] rfl ?_
    exact hE _ _ _ rfl
  · replace h := it_f c_11 h
    refine g_iconst (v := (0 : Int32)) C dX9_disagreement_24 (by decide) ?_
    refine g_istore (lv' := [(5, .int (0 : Int32)), (0, .ref (oa (gw Γ) 0)), (1, .int v1), (2, .int v2), (3, .int v3), (4, .int v4)]) C dX9_disagreement_25 (by decide) rfl ?_
    obtain ⟨v1_10, v2_10, v3_10, v4_10, m_10, hx, h⟩ := l5_some h
    refine g_sub [1, 2, 3, 4, 5, 0] rfl ?_
    refine lt_X9_disagreement_27 N Γ C N v1 v2 v3 v4 (0 : Int32) m _ hx ?_
    intro z1 z2 z3 z4 m9 e9
    cases e9
    refine g_iinc (q := 4) (v := v4_10 + (1 : Int32)) (lv' := [(4, .int (v4_10 + (1 : Int32))), (0, .ref (oa (gw Γ) 0)), (1, .int v1_10), (2, .int v2_10), (3, .int v3_10)]) C dX9_disagreement_96 rfl rfl (by decide) rfl ?_
    refine g_goto (tgt := 12) C dX9_disagreement_99 (by decide) ?_
    refine g_sub [1, 2, 3, 4, 0] rfl ?_
    exact hrec v1_10 v2_10 v3_10 (v4_10 + (1 : Int32)) m_10 b h hE
theorem lt_X9_disagreement_12 (N : Nat) (Γ : Gc) (C : Cx Γ cX9_disagreement 6 RX9 (rmK 7 111 2)) : ∀ (n : Nat) (v1 : Int32) (v2 : Int32) (v3 : Int32) (v4 : Int32) (m : Mem) (b : Int32 × Int32 × Mem), L_X9_disagreement_12 N n v1 v2 v3 v4 m = some b → Ex_X9_disagreement_12 Γ 1 b → G Γ 6 1 m 12 [(0, .ref (oa (gw Γ) 0)), (1, .int v1), (2, .int v2), (3, .int v3), (4, .int v4)] [] := by
  intro n
  induction n with
  | zero =>
    intro v1 v2 v3 v4 m b h
    have h9 : (none : Option (Int32 × Int32 × Mem)) = some b := h
    cases h9
  | succ n ih => intro v1 v2 v3 v4 m b h hE; exact t_X9_disagreement_12 N Γ C (L_X9_disagreement_12 N n) b hE ih v1 v2 v3 v4 m h
set_option maxRecDepth 100000 in
set_option maxHeartbeats 4000000 in
theorem t_X9_disagreement (N : Nat) (Γ : Gc) (C : Cx Γ cX9_disagreement 6 RX9 (rmK 7 111 2)) (v1 : Int32) (m : Mem) (b : (UInt64 ⊕ Nat) × Mem) (h : f_X9_disagreement N v1 m = some b) (hE : ED Γ 6 cX9_disagreement 2 b) : G Γ 6 0 m 0 [(0, .ref (oa (gw Γ) 0)), (1, .int v1)] [] := by
  unfold f_X9_disagreement at h
  refine g_aload_n C dX9_disagreement_0 0 rfl rfl ?_
  refine g_iload_n C dX9_disagreement_1 1 rfl rfl ?_
  rcases x1_some h with ⟨m_1, hk_1, h⟩ | ⟨e_1, m_1, hk_1, rfl⟩
  · refine g_xvV_ok (mc' := 1) (As := [.int v1]) (a := 0) (ci := 9) C dX9_disagreement_2 mf_X9_checkProposal k_368 rfl (by decide) ⟨by decide, by decide⟩ rfl rfl (Nat.le_of_ble_eq_true rfl) (by decide) rfl (c_X9_checkProposal N (gl Γ) C.2.2.2.2 (gw Γ) v1 m _ hk_1) ?_
    refine g_iconst (v := (0 : Int32)) C dX9_disagreement_5 (by decide) ?_
    refine g_istore_n (lv' := [(2, .int (0 : Int32)), (0, .ref (oa (gw Γ) 0)), (1, .int v1)]) C dX9_disagreement_6 rfl (by decide) rfl ?_
    refine g_iconst (v := (0 : Int32)) C dX9_disagreement_7 (by decide) ?_
    refine g_istore_n (lv' := [(3, .int (0 : Int32)), (2, .int (0 : Int32)), (0, .ref (oa (gw Γ) 0)), (1, .int v1)]) C dX9_disagreement_8 rfl (by decide) rfl ?_
    refine g_iconst (v := (0 : Int32)) C dX9_disagreement_9 (by decide) ?_
    refine g_istore (lv' := [(4, .int (0 : Int32)), (3, .int (0 : Int32)), (2, .int (0 : Int32)), (0, .ref (oa (gw Γ) 0)), (1, .int v1)]) C dX9_disagreement_10 (by decide) rfl ?_
    obtain ⟨v2_12, v3_12, m_12, hx, h⟩ := l3_some h
    refine g_sub [3, 4, 2, 1, 0] rfl ?_
    refine lt_X9_disagreement_12 N Γ C N v1 (0 : Int32) (0 : Int32) (0 : Int32) m_1 _ hx ?_
    intro z2 z3 m9 e9
    cases e9
    refine g_iload_n C dX9_disagreement_102 0 rfl rfl ?_
    refine g_if_ne (tgt := 117) C dX9_disagreement_103 (by decide) (fun c_14 => ?_) (fun c_14 => ?_)
    · replace h := it_f c_14 h
      refine g_iload_n C dX9_disagreement_117 1 rfl rfl ?_
      refine g_i2d C dX9_disagreement_118 ?_
      refine g_iload_n C dX9_disagreement_119 0 rfl rfl ?_
      refine g_i2d C dX9_disagreement_120 ?_
      obtain ⟨g_13, h⟩ := gd_some h
      refine g_ddiv C dX9_disagreement_121 g_13 ?_
      obtain rfl := Option.some.inj h
      exact (hE).1 _ rfl 1 (by decide) 122 _ dX9_disagreement_122
    · replace h := it_t c_14 h
      obtain rfl := Option.some.inj h
      exact g_throwNW (n := 26) C  dX9_disagreement_106 dX9_disagreement_109 dX9_disagreement_110 dX9_disagreement_113 dX9_disagreement_116 (List.mem_of_getElem? (i := 26) rfl) (by decide) (Nat.le_of_ble_eq_true rfl) (by decide) ((hE).2 3 rfl)
  · exact g_xvV_th (mc' := 1) (As := [.int v1]) (a := 0) (ci := 9) C dX9_disagreement_2 mf_X9_checkProposal k_368 rfl (by decide) ⟨by decide, by decide⟩ rfl rfl (Nat.le_of_ble_eq_true rfl) (by decide) rfl (c_X9_checkProposal N (gl Γ) C.2.2.2.2 (gw Γ) v1 m _ hk_1) (hE.2 _ rfl)
theorem c_X9_disagreement (N : Nat) (l : Launch) (hst : l.stackTraces = false) (w : Om) (v1 : Int32) (m : Mem) (o : (UInt64 ⊕ Nat) × Mem) (h : f_X9_disagreement N v1 m = some o) : XD l yX9_disagreement cX9_disagreement 6 (some .double) 7 111 2 w [.ref (oa w 0), .int v1] m o := XD_of hst (by decide +kernel) RX9 rfl (Nat.le_of_ble_eq_true rfl) (fun Γ hw hl C hE => by
  subst hw; subst hl
  exact t_X9_disagreement N Γ C v1 m o h hE)
def Ex_X9_rank_29 (Γ : Gc) (cs : Nat) (b : Int32 × Mem) : Prop := (∀ (y2 : Int32) (m' : Mem), b = (y2, m') → G Γ 4 cs m' 93 [(2, .int y2)] [])
set_option maxRecDepth 100000 in
set_option maxHeartbeats 4000000 in
theorem t_X9_rank_29 (N : Nat) (Γ : Gc) (C : Cx Γ cX9_rank 4 RX9 (rmK 7 116 2)) (rc : Int32 → Int32 → Int32 → Mem → Option (Int32 × Mem)) (b : Int32 × Mem) (hE : Ex_X9_rank_29 Γ 2 b) (hrec : ∀ (v1 : Int32) (v2 : Int32) (v3 : Int32) (m : Mem) (b : Int32 × Mem), rc v1 v2 v3 m = some b → Ex_X9_rank_29 Γ 2 b → G Γ 4 2 m 29 [(0, .ref (oa (gw Γ) 0)), (1, .int v1), (2, .int v2), (3, .int v3)] []) (v1 : Int32) (v2 : Int32) (v3 : Int32) (m : Mem) (h : T_X9_rank_29 N rc v1 v2 v3 m = some b) : G Γ 4 2 m 29 [(0, .ref (oa (gw Γ) 0)), (1, .int v1), (2, .int v2), (3, .int v3)] [] := by
  unfold T_X9_rank_29 at h
  refine g_iload_n C dX9_rank_29 3 rfl rfl ?_
  refine g_aload_n C dX9_rank_30 0 rfl rfl ?_
  refine g_getR (ci := 9) (j := 7) C dX9_rank_31 rfl (by decide) rfl inT_X9 (by decide) k_333 rfl rfl rfl ?_
  obtain ⟨g_4, h⟩ := gd_some h
  refine g_getI (ci := 6) (j := 2) C dX9_rank_34 rfl (by decide) rfl inT_X6 (by decide) k_345 rfl g_4 ?_
  refine g_icmp_ge (tgt := 93) C dX9_rank_37 (by decide) (fun c_12 => ?_) (fun c_12 => ?_)
  · replace h := it_t c_12 h
    obtain rfl := Option.some.inj h
    refine g_sub [2] rfl ?_
    exact hE _ _ rfl
  · replace h := it_f c_12 h
    refine g_aload_n C dX9_rank_40 0 rfl rfl ?_
    refine g_getR (ci := 9) (j := 7) C dX9_rank_41 rfl (by decide) rfl inT_X9 (by decide) k_333 rfl rfl rfl ?_
    refine g_getT (b := rt (gR m 0 7) 9) (ci := 6) (j := 9) C dX9_rank_44 rfl (by decide) rfl inT_X6 (by decide) k_113 rfl rfl rfl g_4 ?_
    refine g_iload_n C dX9_rank_47 3 rfl rfl ?_
    obtain ⟨g_5, h⟩ := gd_some h
    refine g_iald C dX9_rank_48 g_5 ?_
    refine g_aload_n C dX9_rank_49 0 rfl rfl ?_
    refine g_getR (ci := 9) (j := 7) C dX9_rank_50 rfl (by decide) rfl inT_X9 (by decide) k_333 rfl rfl rfl ?_
    refine g_getT (b := rt (gR m 0 7) 9) (ci := 6) (j := 9) C dX9_rank_53 rfl (by decide) rfl inT_X6 (by decide) k_113 rfl rfl rfl g_4 ?_
    refine g_iload_n C dX9_rank_56 1 rfl rfl ?_
    obtain ⟨g_6, h⟩ := gd_some h
    refine g_iald C dX9_rank_57 g_6 ?_
    refine g_icmp_ne (tgt := 87) C dX9_rank_58 (by decide) (fun c_11 => ?_) (fun c_11 => ?_)
    · replace h := it_f c_11 h
      refine g_iinc (q := 3) (v := v3 + (1 : Int32)) (lv' := [(3, .int (v3 + (1 : Int32))), (0, .ref (oa (gw Γ) 0)), (1, .int v1), (2, .int v2)]) C dX9_rank_87 rfl rfl (by decide) rfl ?_
      refine g_goto (tgt := 29) C dX9_rank_90 (by decide) ?_
      refine g_sub [1, 2, 3, 0] rfl ?_
      exact hrec v1 v2 (v3 + (1 : Int32)) m b h hE
    · replace h := it_t c_11 h
      refine g_aload_n C dX9_rank_61 0 rfl rfl ?_
      refine g_getT (b := 38) (ci := 9) (j := 3) C dX9_rank_62 rfl (by decide) rfl inT_X9 (by decide) k_434 rfl rfl rfl rfl ?_
      refine g_iload_n C dX9_rank_65 3 rfl rfl ?_
      obtain ⟨r_7, m_7, hk_7, h⟩ := b2_some h
      refine g_vI (As := [.int v3]) (a := 38) (ci := 5) C dX9_rank_66 mf_X5_isRanked k_440 rfl (by decide) ⟨by decide, by decide⟩ rfl rfl (Nat.le_of_ble_eq_true rfl) (by decide) rfl (c_X5_isRanked N (gl Γ) C.2.2.2.2 (gw Γ) v3 m _ hk_7) ?_
      refine g_if_eq (tgt := 87) C dX9_rank_69 (by decide) (fun c_10 => ?_) (fun c_10 => ?_)
      · replace h := it_t c_10 h
        refine g_iinc (q := 3) (v := v3 + (1 : Int32)) (lv' := [(3, .int (v3 + (1 : Int32))), (0, .ref (oa (gw Γ) 0)), (1, .int v1), (2, .int v2)]) C dX9_rank_87 rfl rfl (by decide) rfl ?_
        refine g_goto (tgt := 29) C dX9_rank_90 (by decide) ?_
        refine g_sub [1, 2, 3, 0] rfl ?_
        exact hrec v1 v2 (v3 + (1 : Int32)) m_7 b h hE
      · replace h := it_f c_10 h
        refine g_aload_n C dX9_rank_72 0 rfl rfl ?_
        refine g_getT (b := 38) (ci := 9) (j := 3) C dX9_rank_73 rfl (by decide) rfl inT_X9 (by decide) k_434 rfl rfl rfl rfl ?_
        refine g_iload_n C dX9_rank_76 3 rfl rfl ?_
        refine g_iload_n C dX9_rank_77 1 rfl rfl ?_
        obtain ⟨r_8, m_8, hk_8, h⟩ := b2_some h
        refine g_vI (As := [.int v3, .int v1]) (a := 38) (ci := 5) C dX9_rank_78 mf_X5_isBefore k_449 rfl (by decide) ⟨by decide, by decide⟩ rfl rfl (Nat.le_of_ble_eq_true rfl) (by decide) rfl (c_X5_isBefore N (gl Γ) C.2.2.2.2 (gw Γ) v3 v1 m_7 _ hk_8) ?_
        refine g_if_eq (tgt := 87) C dX9_rank_81 (by decide) (fun c_9 => ?_) (fun c_9 => ?_)
        · replace h := it_t c_9 h
          refine g_iinc (q := 3) (v := v3 + (1 : Int32)) (lv' := [(3, .int (v3 + (1 : Int32))), (0, .ref (oa (gw Γ) 0)), (1, .int v1), (2, .int v2)]) C dX9_rank_87 rfl rfl (by decide) rfl ?_
          refine g_goto (tgt := 29) C dX9_rank_90 (by decide) ?_
          refine g_sub [1, 2, 3, 0] rfl ?_
          exact hrec v1 v2 (v3 + (1 : Int32)) m_8 b h hE
        · replace h := it_f c_9 h
          refine g_iinc (q := 2) (v := v2 + (1 : Int32)) (lv' := [(2, .int (v2 + (1 : Int32))), (0, .ref (oa (gw Γ) 0)), (1, .int v1), (3, .int v3)]) C dX9_rank_84 rfl rfl (by decide) rfl ?_
          refine g_iinc (q := 3) (v := v3 + (1 : Int32)) (lv' := [(3, .int (v3 + (1 : Int32))), (2, .int (v2 + (1 : Int32))), (0, .ref (oa (gw Γ) 0)), (1, .int v1)]) C dX9_rank_87 rfl rfl (by decide) rfl ?_
          refine g_goto (tgt := 29) C dX9_rank_90 (by decide) ?_
          refine g_sub [2, 3, 1, 0] rfl ?_
          exact hrec v1 (v2 + (1 : Int32)) (v3 + (1 : Int32)) m_8 b h hE
theorem lt_X9_rank_29 (N : Nat) (Γ : Gc) (C : Cx Γ cX9_rank 4 RX9 (rmK 7 116 2)) : ∀ (n : Nat) (v1 : Int32) (v2 : Int32) (v3 : Int32) (m : Mem) (b : Int32 × Mem), L_X9_rank_29 N n v1 v2 v3 m = some b → Ex_X9_rank_29 Γ 2 b → G Γ 4 2 m 29 [(0, .ref (oa (gw Γ) 0)), (1, .int v1), (2, .int v2), (3, .int v3)] [] := by
  intro n
  induction n with
  | zero =>
    intro v1 v2 v3 m b h
    have h9 : (none : Option (Int32 × Mem)) = some b := h
    cases h9
  | succ n ih => intro v1 v2 v3 m b h hE; exact t_X9_rank_29 N Γ C (L_X9_rank_29 N n) b hE ih v1 v2 v3 m h
set_option maxRecDepth 100000 in
set_option maxHeartbeats 4000000 in
theorem t_X9_rank (N : Nat) (Γ : Gc) (C : Cx Γ cX9_rank 4 RX9 (rmK 7 116 2)) (v1 : Int32) (m : Mem) (b : (Int32 ⊕ Nat) × Mem) (h : f_X9_rank N v1 m = some b) (hE : EI Γ 4 cX9_rank 2 b) : G Γ 4 0 m 0 [(0, .ref (oa (gw Γ) 0)), (1, .int v1)] [] := by
  unfold f_X9_rank at h
  refine g_aload_n C dX9_rank_0 0 rfl rfl ?_
  refine g_iload_n C dX9_rank_1 1 rfl rfl ?_
  rcases x1_some h with ⟨m_1, hk_1, h⟩ | ⟨e_1, m_1, hk_1, rfl⟩
  · refine g_xvV_ok (mc' := 1) (As := [.int v1]) (a := 0) (ci := 9) C dX9_rank_2 mf_X9_checkProposal k_368 rfl (by decide) ⟨by decide, by decide⟩ rfl rfl (Nat.le_of_ble_eq_true rfl) (by decide) rfl (c_X9_checkProposal N (gl Γ) C.2.2.2.2 (gw Γ) v1 m _ hk_1) ?_
    refine g_aload_n C dX9_rank_5 0 rfl rfl ?_
    refine g_getT (b := 38) (ci := 9) (j := 3) C dX9_rank_6 rfl (by decide) rfl inT_X9 (by decide) k_434 rfl rfl rfl rfl ?_
    refine g_aload_n C dX9_rank_9 0 rfl rfl ?_
    refine g_getR (ci := 9) (j := 7) C dX9_rank_10 rfl (by decide) rfl inT_X9 (by decide) k_333 rfl rfl rfl ?_
    refine g_aload_n C dX9_rank_13 0 rfl rfl ?_
    refine g_getT (b := 3) (ci := 9) (j := 1) C dX9_rank_14 rfl (by decide) rfl inT_X9 (by decide) k_334 rfl rfl rfl rfl ?_
    obtain ⟨m_2, hk_2, h⟩ := b1_some h
    refine g_vV (As := [.ref (oa (gw Γ) (gR m_1 0 7)), .ref (oa (gw Γ) 3)]) (a := 38) (ci := 5) C dX9_rank_17 mf_X5_update k_435 rfl (by decide) ⟨by decide, by decide⟩ rfl rfl (Nat.le_of_ble_eq_true rfl) (by decide) rfl (c_X5_update N (gl Γ) C.2.2.2.2 (gw Γ) (gR m_1 0 7) m_1 _ hk_2) ?_
    refine g_aload_n C dX9_rank_20 0 rfl rfl ?_
    refine g_iload_n C dX9_rank_21 1 rfl rfl ?_
    rcases x1_some h with ⟨m_3, hk_3, h⟩ | ⟨e_3, m_3, hk_3, rfl⟩
    · refine g_xvV_ok (mc' := 1) (As := [.int v1]) (a := 0) (ci := 9) C dX9_rank_22 mf_X9_checkRanked k_441 rfl (by decide) ⟨by decide, by decide⟩ rfl rfl (Nat.le_of_ble_eq_true rfl) (by decide) rfl (c_X9_checkRanked N (gl Γ) C.2.2.2.2 (gw Γ) v1 m_2 _ hk_3) ?_
      refine g_iconst (v := (0 : Int32)) C dX9_rank_25 (by decide) ?_
      refine g_istore_n (lv' := [(2, .int (0 : Int32)), (0, .ref (oa (gw Γ) 0)), (1, .int v1)]) C dX9_rank_26 rfl (by decide) rfl ?_
      refine g_iconst (v := (0 : Int32)) C dX9_rank_27 (by decide) ?_
      refine g_istore_n (lv' := [(3, .int (0 : Int32)), (2, .int (0 : Int32)), (0, .ref (oa (gw Γ) 0)), (1, .int v1)]) C dX9_rank_28 rfl (by decide) rfl ?_
      obtain ⟨v2_13, m_13, hx, h⟩ := l2_some h
      refine g_sub [2, 3, 1, 0] rfl ?_
      refine lt_X9_rank_29 N Γ C N v1 (0 : Int32) (0 : Int32) m_3 _ hx ?_
      intro z2 m9 e9
      cases e9
      refine g_iload_n C dX9_rank_93 0 rfl rfl ?_
      obtain rfl := Option.some.inj h
      exact (hE).1 _ rfl 2 (by decide) 94 _ dX9_rank_94
    · exact g_xvV_th (mc' := 1) (As := [.int v1]) (a := 0) (ci := 9) C dX9_rank_22 mf_X9_checkRanked k_441 rfl (by decide) ⟨by decide, by decide⟩ rfl rfl (Nat.le_of_ble_eq_true rfl) (by decide) rfl (c_X9_checkRanked N (gl Γ) C.2.2.2.2 (gw Γ) v1 m_2 _ hk_3) (hE.2 _ rfl)
  · exact g_xvV_th (mc' := 1) (As := [.int v1]) (a := 0) (ci := 9) C dX9_rank_2 mf_X9_checkProposal k_368 rfl (by decide) ⟨by decide, by decide⟩ rfl rfl (Nat.le_of_ble_eq_true rfl) (by decide) rfl (c_X9_checkProposal N (gl Γ) C.2.2.2.2 (gw Γ) v1 m _ hk_1) (hE.2 _ rfl)
theorem c_X9_rank (N : Nat) (l : Launch) (hst : l.stackTraces = false) (w : Om) (v1 : Int32) (m : Mem) (o : (Int32 ⊕ Nat) × Mem) (h : f_X9_rank N v1 m = some o) : XI l yX9_rank cX9_rank 4 (some .int) 7 116 2 w [.ref (oa w 0), .int v1] m o := XI_of hst (by decide +kernel) RX9 rfl (Nat.le_of_ble_eq_true rfl) (fun Γ hw hl C hE => by
  subst hw; subst hl
  exact t_X9_rank N Γ C v1 m o h hE)
def Ex_X9_ranked_30 (Γ : Gc) (cs : Nat) (b : (Mem) ⊕ (Int32 × Mem)) : Prop := (∀  (m' : Mem), b = .inl (m') → G Γ 6 cs m' 90 [] []) ∧ (∀ (y5 : Int32) (m' : Mem), b = .inr ((y5, m')) → G Γ 6 cs m' 78 [(5, .int y5)] [])
set_option maxRecDepth 100000 in
set_option maxHeartbeats 4000000 in
theorem t_X9_ranked_73 (N : Nat) (Γ : Gc) (C : Cx Γ cX9_ranked 6 RX9 (rmK 7 116 2)) (rc : Int32 → Int32 → Int32 → Int32 → Mem → Option ((Mem) ⊕ (Int32 × Mem))) (b : (Mem) ⊕ (Int32 × Mem)) (hE : Ex_X9_ranked_30 Γ 1 b) (hrec : ∀ (v1 : Int32) (v2 : Int32) (v3 : Int32) (v4 : Int32) (m : Mem) (b : (Mem) ⊕ (Int32 × Mem)), rc v1 v2 v3 v4 m = some b → Ex_X9_ranked_30 Γ 1 b → G Γ 6 1 m 30 [(0, .ref (oa (gw Γ) 0)), (1, .int v1), (2, .int v2), (3, .int v3), (4, .int v4)] []) (v1 : Int32) (v2 : Int32) (v3 : Int32) (v4 : Int32) (v5 : Int32) (m : Mem) (h : B_X9_ranked_73 N rc v1 v2 v3 v4 v5 m = some b) : G Γ 6 1 m 73 [(0, .ref (oa (gw Γ) 0)), (1, .int v1), (2, .int v2), (3, .int v3), (4, .int v4), (5, .int v5)] [] := by
  unfold B_X9_ranked_73 at h
  refine g_iload_n C dX9_ranked_73 3 rfl rfl ?_
  refine g_iload_n C dX9_ranked_74 2 rfl rfl ?_
  refine g_icmp_ne (tgt := 81) C dX9_ranked_75 (by decide) (fun c_3 => ?_) (fun c_3 => ?_)
  · replace h := it_f c_3 h
    refine g_iinc (q := 3) (v := v3 + (1 : Int32)) (lv' := [(3, .int (v3 + (1 : Int32))), (0, .ref (oa (gw Γ) 0)), (1, .int v1), (2, .int v2), (4, .int v4), (5, .int v5)]) C dX9_ranked_81 rfl rfl (by decide) rfl ?_
    refine g_iinc (q := 4) (v := v4 + (1 : Int32)) (lv' := [(4, .int (v4 + (1 : Int32))), (3, .int (v3 + (1 : Int32))), (0, .ref (oa (gw Γ) 0)), (1, .int v1), (2, .int v2), (5, .int v5)]) C dX9_ranked_84 rfl rfl (by decide) rfl ?_
    refine g_goto (tgt := 30) C dX9_ranked_87 (by decide) ?_
    refine g_sub [2, 3, 4, 1, 0] rfl ?_
    exact hrec v1 v2 (v3 + (1 : Int32)) (v4 + (1 : Int32)) m b h hE
  · replace h := it_t c_3 h
    obtain rfl := Option.some.inj h
    refine g_sub [5] rfl ?_
    exact hE.2 _ _ rfl
set_option maxRecDepth 100000 in
set_option maxHeartbeats 4000000 in
theorem t_X9_ranked_30 (N : Nat) (Γ : Gc) (C : Cx Γ cX9_ranked 6 RX9 (rmK 7 116 2)) (rc : Int32 → Int32 → Int32 → Int32 → Mem → Option ((Mem) ⊕ (Int32 × Mem))) (b : (Mem) ⊕ (Int32 × Mem)) (hE : Ex_X9_ranked_30 Γ 1 b) (hrec : ∀ (v1 : Int32) (v2 : Int32) (v3 : Int32) (v4 : Int32) (m : Mem) (b : (Mem) ⊕ (Int32 × Mem)), rc v1 v2 v3 v4 m = some b → Ex_X9_ranked_30 Γ 1 b → G Γ 6 1 m 30 [(0, .ref (oa (gw Γ) 0)), (1, .int v1), (2, .int v2), (3, .int v3), (4, .int v4)] []) (v1 : Int32) (v2 : Int32) (v3 : Int32) (v4 : Int32) (m : Mem) (h : T_X9_ranked_30 N rc v1 v2 v3 v4 m = some b) : G Γ 6 1 m 30 [(0, .ref (oa (gw Γ) 0)), (1, .int v1), (2, .int v2), (3, .int v3), (4, .int v4)] [] := by
  unfold T_X9_ranked_30 at h
  refine g_iload C dX9_ranked_30 4 rfl ?_
  refine g_aload_n C dX9_ranked_32 0 rfl rfl ?_
  refine g_getT (b := 38) (ci := 9) (j := 3) C dX9_ranked_33 rfl (by decide) rfl inT_X9 (by decide) k_434 rfl rfl rfl rfl ?_
  refine g_getI (ci := 5) (j := 9) C dX9_ranked_36 rfl (by decide) rfl inT_X5 (by decide) k_450 rfl rfl ?_
  refine g_icmp_ge (tgt := 90) C dX9_ranked_39 (by decide) (fun c_8 => ?_) (fun c_8 => ?_)
  · replace h := it_t c_8 h
    obtain rfl := Option.some.inj h
    refine g_sub [] rfl ?_
    exact hE.1 _ rfl
  · replace h := it_f c_8 h
    refine g_aload_n C dX9_ranked_42 0 rfl rfl ?_
    refine g_getT (b := 38) (ci := 9) (j := 3) C dX9_ranked_43 rfl (by decide) rfl inT_X9 (by decide) k_434 rfl rfl rfl rfl ?_
    refine g_getT (b := 47) (ci := 5) (j := 8) C dX9_ranked_46 rfl (by decide) rfl inT_X5 (by decide) k_451 rfl rfl rfl rfl ?_
    refine g_iload C dX9_ranked_49 4 rfl ?_
    obtain ⟨g_2, h⟩ := gd_some h
    refine g_iald C dX9_ranked_51 (okA_of rfl rfl g_2) ?_
    refine g_istore (lv' := [(5, .int (gI m 47 v4.toNatClampNeg)), (0, .ref (oa (gw Γ) 0)), (1, .int v1), (2, .int v2), (3, .int v3), (4, .int v4)]) C dX9_ranked_52 (by decide) rfl ?_
    refine g_iload_n C dX9_ranked_54 2 rfl rfl ?_
    refine g_iconst (v := (-1 : Int32)) C dX9_ranked_55 (by decide) ?_
    refine g_icmp_eq (tgt := 73) C dX9_ranked_56 (by decide) (fun c_7 => ?_) (fun c_7 => ?_)
    · replace h := it_t c_7 h
      refine g_sub [1, 2, 3, 4, 5, 0] rfl ?_
      exact t_X9_ranked_73 N Γ C rc b hE hrec v1 v2 v3 v4 (gI m 47 v4.toNatClampNeg) m h
    · replace h := it_f c_7 h
      refine g_aload_n C dX9_ranked_59 1 rfl rfl ?_
      refine g_getR (ci := 9) (j := 7) C dX9_ranked_60 rfl (by decide) rfl inT_X9 (by decide) k_333 rfl rfl rfl ?_
      obtain ⟨g_4, h⟩ := gd_some h
      refine g_getT (b := rt (gR m 0 7) 9) (ci := 6) (j := 9) C dX9_ranked_63 rfl (by decide) rfl inT_X6 (by decide) k_113 rfl rfl rfl g_4 ?_
      refine g_iload C dX9_ranked_66 0 rfl ?_
      obtain ⟨g_5, h⟩ := gd_some h
      refine g_iald C dX9_ranked_68 g_5 ?_
      refine g_iload_n C dX9_ranked_69 2 rfl rfl ?_
      refine g_icmp_ne (tgt := 84) C dX9_ranked_70 (by decide) (fun c_6 => ?_) (fun c_6 => ?_)
      · replace h := it_f c_6 h
        refine g_iinc (q := 5) (v := v4 + (1 : Int32)) (lv' := [(4, .int (v4 + (1 : Int32))), (5, .int (gI m 47 v4.toNatClampNeg)), (0, .ref (oa (gw Γ) 0)), (1, .int v1), (2, .int v2), (3, .int v3)]) C dX9_ranked_84 rfl rfl (by decide) rfl ?_
        refine g_goto (tgt := 30) C dX9_ranked_87 (by decide) ?_
        refine g_sub [2, 3, 4, 5, 0] rfl ?_
        exact hrec v1 v2 v3 (v4 + (1 : Int32)) m b h hE
      · replace h := it_t c_6 h
        refine g_sub [1, 2, 3, 4, 5, 0] rfl ?_
        exact t_X9_ranked_73 N Γ C rc b hE hrec v1 v2 v3 v4 (gI m 47 v4.toNatClampNeg) m h
theorem lt_X9_ranked_30 (N : Nat) (Γ : Gc) (C : Cx Γ cX9_ranked 6 RX9 (rmK 7 116 2)) : ∀ (n : Nat) (v1 : Int32) (v2 : Int32) (v3 : Int32) (v4 : Int32) (m : Mem) (b : (Mem) ⊕ (Int32 × Mem)), L_X9_ranked_30 N n v1 v2 v3 v4 m = some b → Ex_X9_ranked_30 Γ 1 b → G Γ 6 1 m 30 [(0, .ref (oa (gw Γ) 0)), (1, .int v1), (2, .int v2), (3, .int v3), (4, .int v4)] [] := by
  intro n
  induction n with
  | zero =>
    intro v1 v2 v3 v4 m b h
    have h9 : (none : Option ((Mem) ⊕ (Int32 × Mem))) = some b := h
    cases h9
  | succ n ih => intro v1 v2 v3 v4 m b h hE; exact t_X9_ranked_30 N Γ C (L_X9_ranked_30 N n) b hE ih v1 v2 v3 v4 m h
set_option maxRecDepth 100000 in
set_option maxHeartbeats 4000000 in
theorem t_X9_ranked_10 (N : Nat) (Γ : Gc) (C : Cx Γ cX9_ranked 6 RX9 (rmK 7 116 2)) (b : (Int32 ⊕ Nat) × Mem) (hE : EI Γ 6 cX9_ranked 2 b) (v1 : Int32) (v2 : Int32) (m : Mem) (h : B_X9_ranked_10 N v1 v2 m = some b) : G Γ 6 1 m 10 [(0, .ref (oa (gw Γ) 0)), (1, .int v1), (2, .int v2)] [] := by
  unfold B_X9_ranked_10 at h
  refine g_aload_n C dX9_ranked_10 0 rfl rfl ?_
  refine g_getT (b := 38) (ci := 9) (j := 3) C dX9_ranked_11 rfl (by decide) rfl inT_X9 (by decide) k_434 rfl rfl rfl rfl ?_
  refine g_aload_n C dX9_ranked_14 0 rfl rfl ?_
  refine g_getR (ci := 9) (j := 7) C dX9_ranked_15 rfl (by decide) rfl inT_X9 (by decide) k_333 rfl rfl rfl ?_
  refine g_aload_n C dX9_ranked_18 0 rfl rfl ?_
  refine g_getT (b := 3) (ci := 9) (j := 1) C dX9_ranked_19 rfl (by decide) rfl inT_X9 (by decide) k_334 rfl rfl rfl rfl ?_
  obtain ⟨m_1, hk_1, h⟩ := b1_some h
  refine g_vV (As := [.ref (oa (gw Γ) (gR m 0 7)), .ref (oa (gw Γ) 3)]) (a := 38) (ci := 5) C dX9_ranked_22 mf_X5_update k_435 rfl (by decide) ⟨by decide, by decide⟩ rfl rfl (Nat.le_of_ble_eq_true rfl) (by decide) rfl (c_X5_update N (gl Γ) C.2.2.2.2 (gw Γ) (gR m 0 7) m _ hk_1) ?_
  refine g_iconst (v := (0 : Int32)) C dX9_ranked_25 (by decide) ?_
  refine g_istore_n (lv' := [(3, .int (0 : Int32)), (0, .ref (oa (gw Γ) 0)), (1, .int v1), (2, .int v2)]) C dX9_ranked_26 rfl (by decide) rfl ?_
  refine g_iconst (v := (0 : Int32)) C dX9_ranked_27 (by decide) ?_
  refine g_istore (lv' := [(4, .int (0 : Int32)), (3, .int (0 : Int32)), (0, .ref (oa (gw Γ) 0)), (1, .int v1), (2, .int v2)]) C dX9_ranked_28 (by decide) rfl ?_
  obtain ⟨x9, hx, h⟩ := ob_some h
  refine g_sub [2, 3, 4, 1, 0] rfl ?_
  refine lt_X9_ranked_30 N Γ C N v1 v2 (0 : Int32) (0 : Int32) m_1 _ hx ?_
  refine ⟨?_, ?_⟩
  · intro  m_9 e9
    subst e9
    replace h : (some (.inr 2, m_9)) = some b := h
    obtain rfl := Option.some.inj h
    exact g_throwW (n := 27) C tf_2 dX9_ranked_90 dX9_ranked_93 dX9_ranked_94 dX9_ranked_97 dX9_ranked_100 (List.mem_of_getElem? (i := 27) rfl) (by decide) (Nat.le_of_ble_eq_true rfl) (by decide) ((hE).2 2 rfl)
  · intro v5_9 m_9 e9
    subst e9
    replace h : (some (.inl v5_9, m_9)) = some b := h
    refine g_iload C dX9_ranked_78 0 rfl ?_
    obtain rfl := Option.some.inj h
    exact (hE).1 _ rfl 1 (by decide) 80 _ dX9_ranked_80
set_option maxRecDepth 100000 in
set_option maxHeartbeats 4000000 in
theorem t_X9_ranked (N : Nat) (Γ : Gc) (C : Cx Γ cX9_ranked 6 RX9 (rmK 7 116 2)) (v1 : Int32) (v2 : Int32) (m : Mem) (b : (Int32 ⊕ Nat) × Mem) (h : f_X9_ranked N v1 v2 m = some b) (hE : EI Γ 6 cX9_ranked 2 b) : G Γ 6 0 m 0 [(0, .ref (oa (gw Γ) 0)), (1, .int v1), (2, .int v2)] [] := by
  unfold f_X9_ranked at h
  refine g_iload_n C dX9_ranked_0 1 rfl rfl ?_
  refine g_iconst (v := (-1 : Int32)) C dX9_ranked_1 (by decide) ?_
  refine g_icmp_eq (tgt := 10) C dX9_ranked_2 (by decide) (fun c_11 => ?_) (fun c_11 => ?_)
  · replace h := it_t c_11 h
    refine g_sub [0, 1, 2] rfl ?_
    refine g_widen (cs' := 1) (by decide) ?_
    exact t_X9_ranked_10 N Γ C b hE v1 v2 m h
  · replace h := it_f c_11 h
    refine g_aload_n C dX9_ranked_5 0 rfl rfl ?_
    refine g_iload_n C dX9_ranked_6 1 rfl rfl ?_
    rcases x1_some h with ⟨m_10, hk_10, h⟩ | ⟨e_10, m_10, hk_10, rfl⟩
    · refine g_xvV_ok (mc' := 1) (As := [.int v1]) (a := 0) (ci := 9) C dX9_ranked_7 mf_X9_checkPanel k_414 rfl (by decide) ⟨by decide, by decide⟩ rfl rfl (Nat.le_of_ble_eq_true rfl) (by decide) rfl (c_X9_checkPanel N (gl Γ) C.2.2.2.2 (gw Γ) v1 m _ hk_10) ?_
      refine g_sub [0, 1, 2] rfl ?_
      exact t_X9_ranked_10 N Γ C b hE v1 v2 m_10 h
    · exact g_xvV_th (mc' := 1) (As := [.int v1]) (a := 0) (ci := 9) C dX9_ranked_7 mf_X9_checkPanel k_414 rfl (by decide) ⟨by decide, by decide⟩ rfl rfl (Nat.le_of_ble_eq_true rfl) (by decide) rfl (c_X9_checkPanel N (gl Γ) C.2.2.2.2 (gw Γ) v1 m _ hk_10) (hE.2 _ rfl)
theorem c_X9_ranked (N : Nat) (l : Launch) (hst : l.stackTraces = false) (w : Om) (v1 : Int32) (v2 : Int32) (m : Mem) (o : (Int32 ⊕ Nat) × Mem) (h : f_X9_ranked N v1 v2 m = some o) : XI l yX9_ranked cX9_ranked 6 (some .int) 7 116 2 w [.ref (oa w 0), .int v1, .int v2] m o := XI_of hst (by decide +kernel) RX9 rfl (Nat.le_of_ble_eq_true rfl) (fun Γ hw hl C hE => by
  subst hw; subst hl
  exact t_X9_ranked N Γ C v1 v2 m o h hE)
set_option maxRecDepth 100000 in
set_option maxHeartbeats 4000000 in
theorem t_X9_tieRound (N : Nat) (Γ : Gc) (C : Cx Γ cX9_tieRound 3 RX9 (rmK 7 116 4)) (v1 : Int32) (v2 : Int32) (m : Mem) (b : (Int32 ⊕ Nat) × Mem) (h : f_X9_tieRound N v1 v2 m = some b) (hE : EI Γ 3 cX9_tieRound 4 b) : G Γ 3 0 m 0 [(0, .ref (oa (gw Γ) 0)), (1, .int v1), (2, .int v2)] [] := by
  unfold f_X9_tieRound at h
  refine g_aload_n C dX9_tieRound_0 0 rfl rfl ?_
  refine g_iload_n C dX9_tieRound_1 1 rfl rfl ?_
  rcases x1_some h with ⟨m_1, hk_1, h⟩ | ⟨e_1, m_1, hk_1, rfl⟩
  · refine g_xvV_ok (mc' := 1) (As := [.int v1]) (a := 0) (ci := 9) C dX9_tieRound_2 mf_X9_checkProposal k_368 rfl (by decide) ⟨by decide, by decide⟩ rfl rfl (Nat.le_of_ble_eq_true rfl) (by decide) rfl (c_X9_checkProposal N (gl Γ) C.2.2.2.2 (gw Γ) v1 m _ hk_1) ?_
    refine g_aload_n C dX9_tieRound_5 0 rfl rfl ?_
    refine g_iload_n C dX9_tieRound_6 2 rfl rfl ?_
    rcases x1_some h with ⟨m_2, hk_2, h⟩ | ⟨e_2, m_2, hk_2, rfl⟩
    · refine g_xvV_ok (mc' := 1) (As := [.int v2]) (a := 0) (ci := 9) C dX9_tieRound_7 mf_X9_checkProposal k_368 rfl (by decide) ⟨by decide, by decide⟩ rfl rfl (Nat.le_of_ble_eq_true rfl) (by decide) rfl (c_X9_checkProposal N (gl Γ) C.2.2.2.2 (gw Γ) v2 m_1 _ hk_2) ?_
      refine g_iload_n C dX9_tieRound_10 1 rfl rfl ?_
      refine g_iload_n C dX9_tieRound_11 2 rfl rfl ?_
      refine g_icmp_ne (tgt := 26) C dX9_tieRound_12 (by decide) (fun c_7 => ?_) (fun c_7 => ?_)
      · replace h := it_f c_7 h
        refine g_aload_n C dX9_tieRound_26 0 rfl rfl ?_
        refine g_getT (b := 38) (ci := 9) (j := 3) C dX9_tieRound_27 rfl (by decide) rfl inT_X9 (by decide) k_434 rfl rfl rfl rfl ?_
        refine g_aload_n C dX9_tieRound_30 0 rfl rfl ?_
        refine g_getR (ci := 9) (j := 7) C dX9_tieRound_31 rfl (by decide) rfl inT_X9 (by decide) k_333 rfl rfl rfl ?_
        refine g_aload_n C dX9_tieRound_34 0 rfl rfl ?_
        refine g_getT (b := 3) (ci := 9) (j := 1) C dX9_tieRound_35 rfl (by decide) rfl inT_X9 (by decide) k_334 rfl rfl rfl rfl ?_
        obtain ⟨m_3, hk_3, h⟩ := b1_some h
        refine g_vV (As := [.ref (oa (gw Γ) (gR m_2 0 7)), .ref (oa (gw Γ) 3)]) (a := 38) (ci := 5) C dX9_tieRound_38 mf_X5_update k_435 rfl (by decide) ⟨by decide, by decide⟩ rfl rfl (Nat.le_of_ble_eq_true rfl) (by decide) rfl (c_X5_update N (gl Γ) C.2.2.2.2 (gw Γ) (gR m_2 0 7) m_2 _ hk_3) ?_
        refine g_aload_n C dX9_tieRound_41 0 rfl rfl ?_
        refine g_iload_n C dX9_tieRound_42 1 rfl rfl ?_
        rcases x1_some h with ⟨m_4, hk_4, h⟩ | ⟨e_4, m_4, hk_4, rfl⟩
        · refine g_xvV_ok (mc' := 1) (As := [.int v1]) (a := 0) (ci := 9) C dX9_tieRound_43 mf_X9_checkRanked k_441 rfl (by decide) ⟨by decide, by decide⟩ rfl rfl (Nat.le_of_ble_eq_true rfl) (by decide) rfl (c_X9_checkRanked N (gl Γ) C.2.2.2.2 (gw Γ) v1 m_3 _ hk_4) ?_
          refine g_aload_n C dX9_tieRound_46 0 rfl rfl ?_
          refine g_iload_n C dX9_tieRound_47 2 rfl rfl ?_
          rcases x1_some h with ⟨m_5, hk_5, h⟩ | ⟨e_5, m_5, hk_5, rfl⟩
          · refine g_xvV_ok (mc' := 1) (As := [.int v2]) (a := 0) (ci := 9) C dX9_tieRound_48 mf_X9_checkRanked k_441 rfl (by decide) ⟨by decide, by decide⟩ rfl rfl (Nat.le_of_ble_eq_true rfl) (by decide) rfl (c_X9_checkRanked N (gl Γ) C.2.2.2.2 (gw Γ) v2 m_4 _ hk_5) ?_
            refine g_aload_n C dX9_tieRound_51 0 rfl rfl ?_
            refine g_getT (b := 38) (ci := 9) (j := 3) C dX9_tieRound_52 rfl (by decide) rfl inT_X9 (by decide) k_434 rfl rfl rfl rfl ?_
            refine g_iload_n C dX9_tieRound_55 1 rfl rfl ?_
            refine g_iload_n C dX9_tieRound_56 2 rfl rfl ?_
            obtain ⟨r_6, m_6, hk_6, h⟩ := b2_some h
            refine g_vI (As := [.int v1, .int v2]) (a := 38) (ci := 5) C dX9_tieRound_57 mf_X5_separation k_452 rfl (by decide) ⟨by decide, by decide⟩ rfl rfl (Nat.le_of_ble_eq_true rfl) (by decide) rfl (c_X5_separation N (gl Γ) C.2.2.2.2 (gw Γ) v1 v2 m_5 _ hk_6) ?_
            obtain rfl := Option.some.inj h
            exact (hE).1 _ rfl 4 (by decide) 60 _ dX9_tieRound_60
          · exact g_xvV_th (mc' := 1) (As := [.int v2]) (a := 0) (ci := 9) C dX9_tieRound_48 mf_X9_checkRanked k_441 rfl (by decide) ⟨by decide, by decide⟩ rfl rfl (Nat.le_of_ble_eq_true rfl) (by decide) rfl (c_X9_checkRanked N (gl Γ) C.2.2.2.2 (gw Γ) v2 m_4 _ hk_5) (hE.2 _ rfl)
        · exact g_xvV_th (mc' := 1) (As := [.int v1]) (a := 0) (ci := 9) C dX9_tieRound_43 mf_X9_checkRanked k_441 rfl (by decide) ⟨by decide, by decide⟩ rfl rfl (Nat.le_of_ble_eq_true rfl) (by decide) rfl (c_X9_checkRanked N (gl Γ) C.2.2.2.2 (gw Γ) v1 m_3 _ hk_4) (hE.2 _ rfl)
      · replace h := it_t c_7 h
        obtain rfl := Option.some.inj h
        exact g_throwW (n := 28) C tf_1 dX9_tieRound_15 dX9_tieRound_18 dX9_tieRound_19 dX9_tieRound_22 dX9_tieRound_25 (List.mem_of_getElem? (i := 28) rfl) (by decide) (Nat.le_of_ble_eq_true rfl) (by decide) ((hE).2 1 rfl)
    · exact g_xvV_th (mc' := 1) (As := [.int v2]) (a := 0) (ci := 9) C dX9_tieRound_7 mf_X9_checkProposal k_368 rfl (by decide) ⟨by decide, by decide⟩ rfl rfl (Nat.le_of_ble_eq_true rfl) (by decide) rfl (c_X9_checkProposal N (gl Γ) C.2.2.2.2 (gw Γ) v2 m_1 _ hk_2) (hE.2 _ rfl)
  · exact g_xvV_th (mc' := 1) (As := [.int v1]) (a := 0) (ci := 9) C dX9_tieRound_2 mf_X9_checkProposal k_368 rfl (by decide) ⟨by decide, by decide⟩ rfl rfl (Nat.le_of_ble_eq_true rfl) (by decide) rfl (c_X9_checkProposal N (gl Γ) C.2.2.2.2 (gw Γ) v1 m _ hk_1) (hE.2 _ rfl)
theorem c_X9_tieRound (N : Nat) (l : Launch) (hst : l.stackTraces = false) (w : Om) (v1 : Int32) (v2 : Int32) (m : Mem) (o : (Int32 ⊕ Nat) × Mem) (h : f_X9_tieRound N v1 v2 m = some o) : XI l yX9_tieRound cX9_tieRound 3 (some .int) 7 116 4 w [.ref (oa w 0), .int v1, .int v2] m o := XI_of hst (by decide +kernel) RX9 rfl (Nat.le_of_ble_eq_true rfl) (fun Γ hw hl C hE => by
  subst hw; subst hl
  exact t_X9_tieRound N Γ C v1 v2 m o h hE)
set_option maxRecDepth 100000 in
set_option maxHeartbeats 4000000 in
theorem t_X9_setLine_11 (N : Nat) (Γ : Gc) (C : Cx Γ cX9_setLine 3 RX9 (rmK 6 102 1)) (b : (Int32 ⊕ Nat) × Mem) (hE : EI Γ 3 cX9_setLine 1 b)  (m : Mem) (h : B_X9_setLine_11 N  m = some b) : G Γ 3 0 m 11 [] [] := by
  unfold B_X9_setLine_11 at h
  obtain rfl := Option.some.inj h
  exact g_throwW (n := 29) C tf_1 dX9_setLine_11 dX9_setLine_14 dX9_setLine_15 dX9_setLine_18 dX9_setLine_21 (List.mem_of_getElem? (i := 29) rfl) (by decide) (Nat.le_of_ble_eq_true rfl) (by decide) ((hE).2 1 rfl)
set_option maxRecDepth 100000 in
set_option maxHeartbeats 4000000 in
theorem t_X9_setLine (N : Nat) (Γ : Gc) (C : Cx Γ cX9_setLine 3 RX9 (rmK 6 102 1)) (v1 : Int32) (m : Mem) (b : (Int32 ⊕ Nat) × Mem) (h : f_X9_setLine N v1 m = some b) (hE : EI Γ 3 cX9_setLine 1 b) : G Γ 3 0 m 0 [(0, .ref (oa (gw Γ) 0)), (1, .int v1)] [] := by
  unfold f_X9_setLine at h
  refine g_iload_n C dX9_setLine_0 1 rfl rfl ?_
  refine g_if_lt (tgt := 11) C dX9_setLine_1 (by decide) (fun c_4 => ?_) (fun c_4 => ?_)
  · replace h := it_t c_4 h
    refine g_sub [] rfl ?_
    exact t_X9_setLine_11 N Γ C b hE  m h
  · replace h := it_f c_4 h
    refine g_iload_n C dX9_setLine_4 1 rfl rfl ?_
    refine g_ldc_w (v := (100000 : Int32)) C dX9_setLine_5 k_453 ?_
    refine g_icmp_le (tgt := 22) C dX9_setLine_8 (by decide) (fun c_3 => ?_) (fun c_3 => ?_)
    · replace h := it_t c_3 h
      refine g_aload_n C dX9_setLine_22 0 rfl rfl ?_
      refine g_getT (b := 6) (ci := 9) (j := 2) C dX9_setLine_23 rfl (by decide) rfl inT_X9 (by decide) k_339 rfl rfl rfl rfl ?_
      refine g_aload_n C dX9_setLine_26 0 rfl rfl ?_
      refine g_getT (b := 3) (ci := 9) (j := 1) C dX9_setLine_27 rfl (by decide) rfl inT_X9 (by decide) k_334 rfl rfl rfl rfl ?_
      obtain ⟨m_1, hk_1, h⟩ := b1_some h
      refine g_vV (As := [.ref (oa (gw Γ) 3)]) (a := 6) (ci := 2) C dX9_setLine_30 mf_X2_remember k_378 rfl (by decide) ⟨by decide, by decide⟩ rfl rfl (Nat.le_of_ble_eq_true rfl) (by decide) rfl (c_X2_remember N (gl Γ) C.2.2.2.2 (gw Γ)  m _ hk_1) ?_
      refine g_aload_n C dX9_setLine_33 0 rfl rfl ?_
      refine g_getT (b := 3) (ci := 9) (j := 1) C dX9_setLine_34 rfl (by decide) rfl inT_X9 (by decide) k_334 rfl rfl rfl rfl ?_
      refine g_getI (ci := 7) (j := 3) C dX9_setLine_37 rfl (by decide) rfl inT_X7 (by decide) k_454 rfl rfl ?_
      refine g_istore_n (lv' := [(2, .int (gI m_1 3 3)), (0, .ref (oa (gw Γ) 0)), (1, .int v1)]) C dX9_setLine_40 rfl (by decide) rfl ?_
      refine g_aload_n C dX9_setLine_41 1 rfl rfl ?_
      refine g_getT (b := 3) (ci := 9) (j := 1) C dX9_setLine_42 rfl (by decide) rfl inT_X9 (by decide) k_334 rfl rfl rfl rfl ?_
      refine g_iload_n C dX9_setLine_45 2 rfl rfl ?_
      obtain ⟨m_2, e_2, h⟩ := wr_some h
      refine g_putI (ci := 7) (j := 3) C dX9_setLine_46 rfl (by decide) rfl inT_X7 (by decide) k_454 tyX7 tyX7_ok nmX7 rfl rfl rfl rfl rfl (G_m e_2 ?_)
      refine g_iload_n C dX9_setLine_49 0 rfl rfl ?_
      obtain rfl := Option.some.inj h
      exact (hE).1 _ rfl 0 (by decide) 50 _ dX9_setLine_50
    · replace h := it_f c_3 h
      refine g_sub [] rfl ?_
      exact t_X9_setLine_11 N Γ C b hE  m h
theorem c_X9_setLine (N : Nat) (l : Launch) (hst : l.stackTraces = false) (w : Om) (v1 : Int32) (m : Mem) (o : (Int32 ⊕ Nat) × Mem) (h : f_X9_setLine N v1 m = some o) : XI l yX9_setLine cX9_setLine 3 (some .int) 6 102 1 w [.ref (oa w 0), .int v1] m o := XI_of hst (by decide +kernel) RX9 rfl (Nat.le_of_ble_eq_true rfl) (fun Γ hw hl C hE => by
  subst hw; subst hl
  exact t_X9_setLine N Γ C v1 m o h hE)
set_option maxRecDepth 100000 in
set_option maxHeartbeats 4000000 in
theorem t_X9_checkMode_9 (N : Nat) (Γ : Gc) (C : Cx Γ cX9_checkMode 1 RX9 (rmK 6 90 1)) (b : (Unit ⊕ Nat) × Mem) (hE : EV Γ 1 cX9_checkMode 1 b)  (m : Mem) (h : B_X9_checkMode_9 N  m = some b) : G Γ 1 0 m 9 [] [] := by
  unfold B_X9_checkMode_9 at h
  obtain rfl := Option.some.inj h
  exact g_throwW (n := 30) C tf_1 dX9_checkMode_9 dX9_checkMode_12 dX9_checkMode_13 dX9_checkMode_16 dX9_checkMode_19 (List.mem_of_getElem? (i := 30) rfl) (by decide) (Nat.le_of_ble_eq_true rfl) (by decide) ((hE).2 1 rfl)
set_option maxRecDepth 100000 in
set_option maxHeartbeats 4000000 in
theorem t_X9_checkMode (N : Nat) (Γ : Gc) (C : Cx Γ cX9_checkMode 1 RX9 (rmK 6 90 1)) (v0 : Int32) (m : Mem) (b : (Unit ⊕ Nat) × Mem) (h : f_X9_checkMode N v0 m = some b) (hE : EV Γ 1 cX9_checkMode 1 b) : G Γ 1 0 m 0 [(0, .int v0)] [] := by
  unfold f_X9_checkMode at h
  refine g_iload_n C dX9_checkMode_0 0 rfl rfl ?_
  refine g_if_lt (tgt := 9) C dX9_checkMode_1 (by decide) (fun c_2 => ?_) (fun c_2 => ?_)
  · replace h := it_t c_2 h
    refine g_sub [] rfl ?_
    exact t_X9_checkMode_9 N Γ C b hE  m h
  · replace h := it_f c_2 h
    refine g_iload_n C dX9_checkMode_4 0 rfl rfl ?_
    refine g_iconst (v := (2 : Int32)) C dX9_checkMode_5 (by decide) ?_
    refine g_icmp_le (tgt := 20) C dX9_checkMode_6 (by decide) (fun c_1 => ?_) (fun c_1 => ?_)
    · replace h := it_t c_1 h
      obtain rfl := Option.some.inj h
      exact (hE).1 _ rfl 0 (by decide) 20 _ dX9_checkMode_20
    · replace h := it_f c_1 h
      refine g_sub [] rfl ?_
      exact t_X9_checkMode_9 N Γ C b hE  m h
theorem c_X9_checkMode (N : Nat) (l : Launch) (hst : l.stackTraces = false) (w : Om) (v0 : Int32) (m : Mem) (o : (Unit ⊕ Nat) × Mem) (h : f_X9_checkMode N v0 m = some o) : XV l yX9_checkMode cX9_checkMode 1 none 6 90 1 w [.int v0] m o := XV_of hst (by decide +kernel) RX9 rfl (Nat.le_of_ble_eq_true rfl) (fun Γ hw hl C hE => by
  subst hw; subst hl
  exact t_X9_checkMode N Γ C v0 m o h hE)
set_option maxRecDepth 100000 in
set_option maxHeartbeats 4000000 in
theorem t_X9_fund (N : Nat) (Γ : Gc) (C : Cx Γ cX9_fund 2 RX9 (rmK 5 116 0)) (v1 : Int32) (m : Mem) (b : Mem) (h : f_X9_fund N v1 m = some b) (hE : EVn Γ 2 cX9_fund b) : G Γ 2 0 m 0 [(0, .ref (oa (gw Γ) 0)), (1, .int v1)] [] := by
  unfold f_X9_fund at h
  refine g_aload_n C dX9_fund_0 0 rfl rfl ?_
  refine g_getT (b := 38) (ci := 9) (j := 3) C dX9_fund_1 rfl (by decide) rfl inT_X9 (by decide) k_434 rfl rfl rfl rfl ?_
  refine g_aload_n C dX9_fund_4 0 rfl rfl ?_
  refine g_getR (ci := 9) (j := 7) C dX9_fund_5 rfl (by decide) rfl inT_X9 (by decide) k_333 rfl rfl rfl ?_
  refine g_aload_n C dX9_fund_8 0 rfl rfl ?_
  refine g_getT (b := 3) (ci := 9) (j := 1) C dX9_fund_9 rfl (by decide) rfl inT_X9 (by decide) k_334 rfl rfl rfl rfl ?_
  obtain ⟨m_1, hk_1, h⟩ := b1_some h
  refine g_vV (As := [.ref (oa (gw Γ) (gR m 0 7)), .ref (oa (gw Γ) 3)]) (a := 38) (ci := 5) C dX9_fund_12 mf_X5_update k_435 rfl (by decide) ⟨by decide, by decide⟩ rfl rfl (Nat.le_of_ble_eq_true rfl) (by decide) rfl (c_X5_update N (gl Γ) C.2.2.2.2 (gw Γ) (gR m 0 7) m _ hk_1) ?_
  refine g_aload_n C dX9_fund_15 0 rfl rfl ?_
  refine g_getT (b := 48) (ci := 9) (j := 4) C dX9_fund_16 rfl (by decide) rfl inT_X9 (by decide) k_455 rfl rfl rfl rfl ?_
  refine g_aload_n C dX9_fund_19 0 rfl rfl ?_
  refine g_getR (ci := 9) (j := 7) C dX9_fund_20 rfl (by decide) rfl inT_X9 (by decide) k_333 rfl rfl rfl ?_
  refine g_aload_n C dX9_fund_23 0 rfl rfl ?_
  refine g_getT (b := 38) (ci := 9) (j := 3) C dX9_fund_24 rfl (by decide) rfl inT_X9 (by decide) k_434 rfl rfl rfl rfl ?_
  refine g_iload_n C dX9_fund_27 1 rfl rfl ?_
  refine g_aload_n C dX9_fund_28 0 rfl rfl ?_
  refine g_getT (b := 3) (ci := 9) (j := 1) C dX9_fund_29 rfl (by decide) rfl inT_X9 (by decide) k_334 rfl rfl rfl rfl ?_
  refine g_getI (ci := 7) (j := 3) C dX9_fund_32 rfl (by decide) rfl inT_X7 (by decide) k_454 rfl rfl ?_
  obtain ⟨m_2, hk_2, h⟩ := b1_some h
  refine g_vV (As := [.ref (oa (gw Γ) (gR m_1 0 7)), .ref (oa (gw Γ) 38), .int v1, .int (gI m_1 3 3)]) (a := 48) (ci := 1) C dX9_fund_35 mf_X1_distribute k_456 rfl (by decide) ⟨by decide, by decide⟩ rfl rfl (Nat.le_of_ble_eq_true rfl) (by decide) rfl (c_X1_distribute N (gl Γ) C.2.2.2.2 (gw Γ) (gR m_1 0 7) v1 (gI m_1 3 3) m_1 _ hk_2) ?_
  obtain rfl := Option.some.inj h
  exact hE 38 _ dX9_fund_38
theorem c_X9_fund (N : Nat) (l : Launch) (hst : l.stackTraces = false) (w : Om) (v1 : Int32) (m : Mem) (o : Mem) (h : f_X9_fund N v1 m = some o) : KV l yX9_fund cX9_fund 2 none 5 116 w [.ref (oa w 0), .int v1] m o := KV_of hst (by decide +kernel) RX9 rfl (Nat.le_of_ble_eq_true rfl) (fun Γ hw hl C hE => by
  subst hw; subst hl
  exact t_X9_fund N Γ C v1 m o h hE)
set_option maxRecDepth 100000 in
set_option maxHeartbeats 4000000 in
theorem t_X9_amount (N : Nat) (Γ : Gc) (C : Cx Γ cX9_amount 3 RX9 (rmK 7 137 2)) (v1 : Int32) (v2 : Int32) (m : Mem) (b : (Int32 ⊕ Nat) × Mem) (h : f_X9_amount N v1 v2 m = some b) (hE : EI Γ 3 cX9_amount 2 b) : G Γ 3 0 m 0 [(0, .ref (oa (gw Γ) 0)), (1, .int v1), (2, .int v2)] [] := by
  unfold f_X9_amount at h
  refine g_iload_n C dX9_amount_0 1 rfl rfl ?_
  rcases x1_some h with ⟨m_1, hk_1, h⟩ | ⟨e_1, m_1, hk_1, rfl⟩
  · refine g_xsV_ok (mc' := 1) (As := [.int v1]) C dX9_amount_1 mf_X9_checkMode k_460 ⟨by decide, by decide⟩ rfl rfl (Nat.le_of_ble_eq_true rfl) (by decide) (c_X9_checkMode N (gl Γ) C.2.2.2.2 (gw Γ) v1 m _ hk_1) ?_
    refine g_aload_n C dX9_amount_4 0 rfl rfl ?_
    refine g_iload_n C dX9_amount_5 2 rfl rfl ?_
    rcases x1_some h with ⟨m_2, hk_2, h⟩ | ⟨e_2, m_2, hk_2, rfl⟩
    · refine g_xvV_ok (mc' := 1) (As := [.int v2]) (a := 0) (ci := 9) C dX9_amount_6 mf_X9_checkProposal k_368 rfl (by decide) ⟨by decide, by decide⟩ rfl rfl (Nat.le_of_ble_eq_true rfl) (by decide) rfl (c_X9_checkProposal N (gl Γ) C.2.2.2.2 (gw Γ) v2 m_1 _ hk_2) ?_
      refine g_aload_n C dX9_amount_9 0 rfl rfl ?_
      refine g_iload_n C dX9_amount_10 1 rfl rfl ?_
      obtain ⟨m_3, hk_3, h⟩ := b1_some h
      refine g_vV (As := [.int v1]) (a := 0) (ci := 9) C dX9_amount_11 mf_X9_fund k_463 rfl (by decide) ⟨by decide, by decide⟩ rfl rfl (Nat.le_of_ble_eq_true rfl) (by decide) rfl (c_X9_fund N (gl Γ) C.2.2.2.2 (gw Γ) v1 m_2 _ hk_3) ?_
      refine g_aload_n C dX9_amount_14 0 rfl rfl ?_
      refine g_getT (b := 48) (ci := 9) (j := 4) C dX9_amount_15 rfl (by decide) rfl inT_X9 (by decide) k_455 rfl rfl rfl rfl ?_
      refine g_getT (b := 49) (ci := 1) (j := 0) C dX9_amount_18 rfl (by decide) rfl inT_X1 (by decide) k_467 rfl rfl rfl rfl ?_
      refine g_iload_n C dX9_amount_21 2 rfl rfl ?_
      obtain ⟨g_4, h⟩ := gd_some h
      refine g_iald C dX9_amount_22 (okA_of rfl rfl g_4) ?_
      obtain rfl := Option.some.inj h
      exact (hE).1 _ rfl 2 (by decide) 23 _ dX9_amount_23
    · exact g_xvV_th (mc' := 1) (As := [.int v2]) (a := 0) (ci := 9) C dX9_amount_6 mf_X9_checkProposal k_368 rfl (by decide) ⟨by decide, by decide⟩ rfl rfl (Nat.le_of_ble_eq_true rfl) (by decide) rfl (c_X9_checkProposal N (gl Γ) C.2.2.2.2 (gw Γ) v2 m_1 _ hk_2) (hE.2 _ rfl)
  · exact g_xsV_th (mc' := 1) (As := [.int v1]) C dX9_amount_1 mf_X9_checkMode k_460 ⟨by decide, by decide⟩ rfl rfl (Nat.le_of_ble_eq_true rfl) (by decide) (c_X9_checkMode N (gl Γ) C.2.2.2.2 (gw Γ) v1 m _ hk_1) (hE.2 _ rfl)
theorem c_X9_amount (N : Nat) (l : Launch) (hst : l.stackTraces = false) (w : Om) (v1 : Int32) (v2 : Int32) (m : Mem) (o : (Int32 ⊕ Nat) × Mem) (h : f_X9_amount N v1 v2 m = some o) : XI l yX9_amount cX9_amount 3 (some .int) 7 137 2 w [.ref (oa w 0), .int v1, .int v2] m o := XI_of hst (by decide +kernel) RX9 rfl (Nat.le_of_ble_eq_true rfl) (fun Γ hw hl C hE => by
  subst hw; subst hl
  exact t_X9_amount N Γ C v1 v2 m o h hE)
set_option maxRecDepth 100000 in
set_option maxHeartbeats 4000000 in
theorem t_X9_left (N : Nat) (Γ : Gc) (C : Cx Γ cX9_left 3 RX9 (rmK 7 137 2)) (v1 : Int32) (v2 : Int32) (m : Mem) (b : (Int32 ⊕ Nat) × Mem) (h : f_X9_left N v1 v2 m = some b) (hE : EI Γ 3 cX9_left 2 b) : G Γ 3 0 m 0 [(0, .ref (oa (gw Γ) 0)), (1, .int v1), (2, .int v2)] [] := by
  unfold f_X9_left at h
  refine g_iload_n C dX9_left_0 1 rfl rfl ?_
  rcases x1_some h with ⟨m_1, hk_1, h⟩ | ⟨e_1, m_1, hk_1, rfl⟩
  · refine g_xsV_ok (mc' := 1) (As := [.int v1]) C dX9_left_1 mf_X9_checkMode k_460 ⟨by decide, by decide⟩ rfl rfl (Nat.le_of_ble_eq_true rfl) (by decide) (c_X9_checkMode N (gl Γ) C.2.2.2.2 (gw Γ) v1 m _ hk_1) ?_
    refine g_aload_n C dX9_left_4 0 rfl rfl ?_
    refine g_iload_n C dX9_left_5 2 rfl rfl ?_
    rcases x1_some h with ⟨m_2, hk_2, h⟩ | ⟨e_2, m_2, hk_2, rfl⟩
    · refine g_xvV_ok (mc' := 1) (As := [.int v2]) (a := 0) (ci := 9) C dX9_left_6 mf_X9_checkPanel k_414 rfl (by decide) ⟨by decide, by decide⟩ rfl rfl (Nat.le_of_ble_eq_true rfl) (by decide) rfl (c_X9_checkPanel N (gl Γ) C.2.2.2.2 (gw Γ) v2 m_1 _ hk_2) ?_
      refine g_aload_n C dX9_left_9 0 rfl rfl ?_
      refine g_iload_n C dX9_left_10 1 rfl rfl ?_
      obtain ⟨m_3, hk_3, h⟩ := b1_some h
      refine g_vV (As := [.int v1]) (a := 0) (ci := 9) C dX9_left_11 mf_X9_fund k_463 rfl (by decide) ⟨by decide, by decide⟩ rfl rfl (Nat.le_of_ble_eq_true rfl) (by decide) rfl (c_X9_fund N (gl Γ) C.2.2.2.2 (gw Γ) v1 m_2 _ hk_3) ?_
      refine g_aload_n C dX9_left_14 0 rfl rfl ?_
      refine g_getT (b := 48) (ci := 9) (j := 4) C dX9_left_15 rfl (by decide) rfl inT_X9 (by decide) k_455 rfl rfl rfl rfl ?_
      refine g_getT (b := 50) (ci := 1) (j := 1) C dX9_left_18 rfl (by decide) rfl inT_X1 (by decide) k_468 rfl rfl rfl rfl ?_
      refine g_iload_n C dX9_left_21 2 rfl rfl ?_
      obtain ⟨g_4, h⟩ := gd_some h
      refine g_iald C dX9_left_22 (okA_of rfl rfl g_4) ?_
      obtain rfl := Option.some.inj h
      exact (hE).1 _ rfl 2 (by decide) 23 _ dX9_left_23
    · exact g_xvV_th (mc' := 1) (As := [.int v2]) (a := 0) (ci := 9) C dX9_left_6 mf_X9_checkPanel k_414 rfl (by decide) ⟨by decide, by decide⟩ rfl rfl (Nat.le_of_ble_eq_true rfl) (by decide) rfl (c_X9_checkPanel N (gl Γ) C.2.2.2.2 (gw Γ) v2 m_1 _ hk_2) (hE.2 _ rfl)
  · exact g_xsV_th (mc' := 1) (As := [.int v1]) C dX9_left_1 mf_X9_checkMode k_460 ⟨by decide, by decide⟩ rfl rfl (Nat.le_of_ble_eq_true rfl) (by decide) (c_X9_checkMode N (gl Γ) C.2.2.2.2 (gw Γ) v1 m _ hk_1) (hE.2 _ rfl)
theorem c_X9_left (N : Nat) (l : Launch) (hst : l.stackTraces = false) (w : Om) (v1 : Int32) (v2 : Int32) (m : Mem) (o : (Int32 ⊕ Nat) × Mem) (h : f_X9_left N v1 v2 m = some o) : XI l yX9_left cX9_left 3 (some .int) 7 137 2 w [.ref (oa w 0), .int v1, .int v2] m o := XI_of hst (by decide +kernel) RX9 rfl (Nat.le_of_ble_eq_true rfl) (fun Γ hw hl C hE => by
  subst hw; subst hl
  exact t_X9_left N Γ C v1 v2 m o h hE)
set_option maxRecDepth 100000 in
set_option maxHeartbeats 4000000 in
theorem t_X9_poolLeft (N : Nat) (Γ : Gc) (C : Cx Γ cX9_poolLeft 2 RX9 (rmK 7 137 1)) (v1 : Int32) (m : Mem) (b : (Int32 ⊕ Nat) × Mem) (h : f_X9_poolLeft N v1 m = some b) (hE : EI Γ 2 cX9_poolLeft 1 b) : G Γ 2 0 m 0 [(0, .ref (oa (gw Γ) 0)), (1, .int v1)] [] := by
  unfold f_X9_poolLeft at h
  refine g_iload_n C dX9_poolLeft_0 1 rfl rfl ?_
  rcases x1_some h with ⟨m_1, hk_1, h⟩ | ⟨e_1, m_1, hk_1, rfl⟩
  · refine g_xsV_ok (mc' := 1) (As := [.int v1]) C dX9_poolLeft_1 mf_X9_checkMode k_460 ⟨by decide, by decide⟩ rfl rfl (Nat.le_of_ble_eq_true rfl) (by decide) (c_X9_checkMode N (gl Γ) C.2.2.2.2 (gw Γ) v1 m _ hk_1) ?_
    refine g_aload_n C dX9_poolLeft_4 0 rfl rfl ?_
    refine g_iload_n C dX9_poolLeft_5 1 rfl rfl ?_
    obtain ⟨m_2, hk_2, h⟩ := b1_some h
    refine g_vV (As := [.int v1]) (a := 0) (ci := 9) C dX9_poolLeft_6 mf_X9_fund k_463 rfl (by decide) ⟨by decide, by decide⟩ rfl rfl (Nat.le_of_ble_eq_true rfl) (by decide) rfl (c_X9_fund N (gl Γ) C.2.2.2.2 (gw Γ) v1 m_1 _ hk_2) ?_
    refine g_aload_n C dX9_poolLeft_9 0 rfl rfl ?_
    refine g_getT (b := 48) (ci := 9) (j := 4) C dX9_poolLeft_10 rfl (by decide) rfl inT_X9 (by decide) k_455 rfl rfl rfl rfl ?_
    refine g_getI (ci := 1) (j := 2) C dX9_poolLeft_13 rfl (by decide) rfl inT_X1 (by decide) k_469 rfl rfl ?_
    obtain rfl := Option.some.inj h
    exact (hE).1 _ rfl 1 (by decide) 16 _ dX9_poolLeft_16
  · exact g_xsV_th (mc' := 1) (As := [.int v1]) C dX9_poolLeft_1 mf_X9_checkMode k_460 ⟨by decide, by decide⟩ rfl rfl (Nat.le_of_ble_eq_true rfl) (by decide) (c_X9_checkMode N (gl Γ) C.2.2.2.2 (gw Γ) v1 m _ hk_1) (hE.2 _ rfl)
theorem c_X9_poolLeft (N : Nat) (l : Launch) (hst : l.stackTraces = false) (w : Om) (v1 : Int32) (m : Mem) (o : (Int32 ⊕ Nat) × Mem) (h : f_X9_poolLeft N v1 m = some o) : XI l yX9_poolLeft cX9_poolLeft 2 (some .int) 7 137 1 w [.ref (oa w 0), .int v1] m o := XI_of hst (by decide +kernel) RX9 rfl (Nat.le_of_ble_eq_true rfl) (fun Γ hw hl C hE => by
  subst hw; subst hl
  exact t_X9_poolLeft N Γ C v1 m o h hE)
set_option maxRecDepth 100000 in
set_option maxHeartbeats 4000000 in
theorem t_X9_funded (N : Nat) (Γ : Gc) (C : Cx Γ cX9_funded 2 RX9 (rmK 7 137 1)) (v1 : Int32) (m : Mem) (b : (Int32 ⊕ Nat) × Mem) (h : f_X9_funded N v1 m = some b) (hE : EI Γ 2 cX9_funded 1 b) : G Γ 2 0 m 0 [(0, .ref (oa (gw Γ) 0)), (1, .int v1)] [] := by
  unfold f_X9_funded at h
  refine g_iload_n C dX9_funded_0 1 rfl rfl ?_
  rcases x1_some h with ⟨m_1, hk_1, h⟩ | ⟨e_1, m_1, hk_1, rfl⟩
  · refine g_xsV_ok (mc' := 1) (As := [.int v1]) C dX9_funded_1 mf_X9_checkMode k_460 ⟨by decide, by decide⟩ rfl rfl (Nat.le_of_ble_eq_true rfl) (by decide) (c_X9_checkMode N (gl Γ) C.2.2.2.2 (gw Γ) v1 m _ hk_1) ?_
    refine g_aload_n C dX9_funded_4 0 rfl rfl ?_
    refine g_iload_n C dX9_funded_5 1 rfl rfl ?_
    obtain ⟨m_2, hk_2, h⟩ := b1_some h
    refine g_vV (As := [.int v1]) (a := 0) (ci := 9) C dX9_funded_6 mf_X9_fund k_463 rfl (by decide) ⟨by decide, by decide⟩ rfl rfl (Nat.le_of_ble_eq_true rfl) (by decide) rfl (c_X9_fund N (gl Γ) C.2.2.2.2 (gw Γ) v1 m_1 _ hk_2) ?_
    refine g_aload_n C dX9_funded_9 0 rfl rfl ?_
    refine g_getT (b := 48) (ci := 9) (j := 4) C dX9_funded_10 rfl (by decide) rfl inT_X9 (by decide) k_455 rfl rfl rfl rfl ?_
    refine g_aload_n C dX9_funded_13 0 rfl rfl ?_
    refine g_getR (ci := 9) (j := 7) C dX9_funded_14 rfl (by decide) rfl inT_X9 (by decide) k_333 rfl rfl rfl ?_
    obtain ⟨g_3, h⟩ := gd_some h
    refine g_getI (ci := 6) (j := 2) C dX9_funded_17 rfl (by decide) rfl inT_X6 (by decide) k_345 rfl g_3 ?_
    obtain ⟨r_4, m_4, hk_4, h⟩ := b2_some h
    refine g_vI (As := [.int (gI m_2 (gR m_2 0 7) 2)]) (a := 48) (ci := 1) C dX9_funded_20 mf_X1_winners k_470 rfl (by decide) ⟨by decide, by decide⟩ rfl rfl (Nat.le_of_ble_eq_true rfl) (by decide) rfl (c_X1_winners N (gl Γ) C.2.2.2.2 (gw Γ) (gI m_2 (gR m_2 0 7) 2) m_2 _ hk_4) ?_
    obtain rfl := Option.some.inj h
    exact (hE).1 _ rfl 1 (by decide) 23 _ dX9_funded_23
  · exact g_xsV_th (mc' := 1) (As := [.int v1]) C dX9_funded_1 mf_X9_checkMode k_460 ⟨by decide, by decide⟩ rfl rfl (Nat.le_of_ble_eq_true rfl) (by decide) (c_X9_checkMode N (gl Γ) C.2.2.2.2 (gw Γ) v1 m _ hk_1) (hE.2 _ rfl)
theorem c_X9_funded (N : Nat) (l : Launch) (hst : l.stackTraces = false) (w : Om) (v1 : Int32) (m : Mem) (o : (Int32 ⊕ Nat) × Mem) (h : f_X9_funded N v1 m = some o) : XI l yX9_funded cX9_funded 2 (some .int) 7 137 1 w [.ref (oa w 0), .int v1] m o := XI_of hst (by decide +kernel) RX9 rfl (Nat.le_of_ble_eq_true rfl) (fun Γ hw hl C hE => by
  subst hw; subst hl
  exact t_X9_funded N Γ C v1 m o h hE)
def Ex_X9_bestSum_29 (Γ : Gc) (cs : Nat) (b : Int32 × Mem) : Prop := (∀ (y1 : Int32) (m' : Mem), b = (y1, m') → G Γ 4 cs m' 113 [(0, .ref (oa (gw Γ) 0)), (1, .int y1)] [])
set_option maxRecDepth 100000 in
set_option maxHeartbeats 4000000 in
theorem t_X9_bestSum_29 (N : Nat) (Γ : Gc) (C : Cx Γ cX9_bestSum 4 RX9 (rmK 7 116 1)) (rc : Int32 → Int32 → Mem → Option (Int32 × Mem)) (b : Int32 × Mem) (hE : Ex_X9_bestSum_29 Γ 1 b) (hrec : ∀ (v1 : Int32) (v2 : Int32) (m : Mem) (b : Int32 × Mem), rc v1 v2 m = some b → Ex_X9_bestSum_29 Γ 1 b → G Γ 4 1 m 29 [(0, .ref (oa (gw Γ) 0)), (1, .int v1), (2, .int v2)] []) (v1 : Int32) (v2 : Int32) (m : Mem) (h : T_X9_bestSum_29 N rc v1 v2 m = some b) : G Γ 4 1 m 29 [(0, .ref (oa (gw Γ) 0)), (1, .int v1), (2, .int v2)] [] := by
  unfold T_X9_bestSum_29 at h
  refine g_iload_n C dX9_bestSum_29 2 rfl rfl ?_
  refine g_aload_n C dX9_bestSum_30 0 rfl rfl ?_
  refine g_getT (b := 38) (ci := 9) (j := 3) C dX9_bestSum_31 rfl (by decide) rfl inT_X9 (by decide) k_434 rfl rfl rfl rfl ?_
  refine g_getI (ci := 5) (j := 9) C dX9_bestSum_34 rfl (by decide) rfl inT_X5 (by decide) k_450 rfl rfl ?_
  refine g_icmp_ge (tgt := 113) C dX9_bestSum_37 (by decide) (fun c_12 => ?_) (fun c_12 => ?_)
  · replace h := it_t c_12 h
    obtain rfl := Option.some.inj h
    refine g_sub [0, 1] rfl ?_
    exact hE _ _ rfl
  · replace h := it_f c_12 h
    refine g_aload_n C dX9_bestSum_40 0 rfl rfl ?_
    refine g_getT (b := 38) (ci := 9) (j := 3) C dX9_bestSum_41 rfl (by decide) rfl inT_X9 (by decide) k_434 rfl rfl rfl rfl ?_
    refine g_getT (b := 47) (ci := 5) (j := 8) C dX9_bestSum_44 rfl (by decide) rfl inT_X5 (by decide) k_451 rfl rfl rfl rfl ?_
    refine g_iload_n C dX9_bestSum_47 2 rfl rfl ?_
    obtain ⟨g_4, h⟩ := gd_some h
    refine g_iald C dX9_bestSum_48 (okA_of rfl rfl g_4) ?_
    refine g_istore_n (lv' := [(3, .int (gI m 47 v2.toNatClampNeg)), (0, .ref (oa (gw Γ) 0)), (1, .int v1), (2, .int v2)]) C dX9_bestSum_49 rfl (by decide) rfl ?_
    refine g_aload_n C dX9_bestSum_50 1 rfl rfl ?_
    refine g_getR (ci := 9) (j := 7) C dX9_bestSum_51 rfl (by decide) rfl inT_X9 (by decide) k_333 rfl rfl rfl ?_
    obtain ⟨g_5, h⟩ := gd_some h
    refine g_getT (b := rt (gR m 0 7) 9) (ci := 6) (j := 9) C dX9_bestSum_54 rfl (by decide) rfl inT_X6 (by decide) k_113 rfl rfl rfl g_5 ?_
    refine g_iload_n C dX9_bestSum_57 0 rfl rfl ?_
    obtain ⟨g_6, h⟩ := gd_some h
    refine g_iald C dX9_bestSum_58 g_6 ?_
    refine g_iload_n C dX9_bestSum_59 2 rfl rfl ?_
    refine g_icmp_ne (tgt := 107) C dX9_bestSum_60 (by decide) (fun c_11 => ?_) (fun c_11 => ?_)
    · replace h := it_f c_11 h
      refine g_iinc (q := 3) (v := v2 + (1 : Int32)) (lv' := [(2, .int (v2 + (1 : Int32))), (3, .int (gI m 47 v2.toNatClampNeg)), (0, .ref (oa (gw Γ) 0)), (1, .int v1)]) C dX9_bestSum_107 rfl rfl (by decide) rfl ?_
      refine g_goto (tgt := 29) C dX9_bestSum_110 (by decide) ?_
      refine g_sub [2, 3, 0] rfl ?_
      exact hrec v1 (v2 + (1 : Int32)) m b h hE
    · replace h := it_t c_11 h
      refine g_aload_n C dX9_bestSum_63 1 rfl rfl ?_
      refine g_getT (b := 38) (ci := 9) (j := 3) C dX9_bestSum_64 rfl (by decide) rfl inT_X9 (by decide) k_434 rfl rfl rfl rfl ?_
      refine g_getT (b := 43) (ci := 5) (j := 4) C dX9_bestSum_67 rfl (by decide) rfl inT_X5 (by decide) k_445 rfl rfl rfl rfl ?_
      refine g_iload_n C dX9_bestSum_70 0 rfl rfl ?_
      obtain ⟨g_7, h⟩ := gd_some h
      refine g_iald C dX9_bestSum_71 (okA_of rfl rfl g_7) ?_
      refine g_aload_n C dX9_bestSum_72 1 rfl rfl ?_
      refine g_getT (b := 3) (ci := 9) (j := 1) C dX9_bestSum_73 rfl (by decide) rfl inT_X9 (by decide) k_334 rfl rfl rfl rfl ?_
      refine g_getI (ci := 7) (j := 3) C dX9_bestSum_76 rfl (by decide) rfl inT_X7 (by decide) k_454 rfl rfl ?_
      refine g_icmp_lt (tgt := 107) C dX9_bestSum_79 (by decide) (fun c_10 => ?_) (fun c_10 => ?_)
      · replace h := it_t c_10 h
        refine g_iinc (q := 3) (v := v2 + (1 : Int32)) (lv' := [(2, .int (v2 + (1 : Int32))), (3, .int (gI m 47 v2.toNatClampNeg)), (0, .ref (oa (gw Γ) 0)), (1, .int v1)]) C dX9_bestSum_107 rfl rfl (by decide) rfl ?_
        refine g_goto (tgt := 29) C dX9_bestSum_110 (by decide) ?_
        refine g_sub [2, 3, 0] rfl ?_
        exact hrec v1 (v2 + (1 : Int32)) m b h hE
      · replace h := it_f c_10 h
        refine g_aload_n C dX9_bestSum_82 1 rfl rfl ?_
        refine g_getT (b := 60) (ci := 9) (j := 6) C dX9_bestSum_83 rfl (by decide) rfl inT_X9 (by decide) k_474 rfl rfl rfl rfl ?_
        refine g_aload_n C dX9_bestSum_86 1 rfl rfl ?_
        refine g_getR (ci := 9) (j := 7) C dX9_bestSum_87 rfl (by decide) rfl inT_X9 (by decide) k_333 rfl rfl rfl ?_
        refine g_getT (b := rt (gR m 0 7) 12) (ci := 6) (j := 12) C dX9_bestSum_90 rfl (by decide) rfl inT_X6 (by decide) k_480 rfl rfl rfl g_5 ?_
        refine g_iload_n C dX9_bestSum_93 0 rfl rfl ?_
        obtain ⟨g_8, h⟩ := gd_some h
        refine g_iald C dX9_bestSum_94 g_8 ?_
        refine g_aload_n C dX9_bestSum_95 1 rfl rfl ?_
        refine g_getT (b := 38) (ci := 9) (j := 3) C dX9_bestSum_96 rfl (by decide) rfl inT_X9 (by decide) k_434 rfl rfl rfl rfl ?_
        refine g_getT (b := 43) (ci := 5) (j := 4) C dX9_bestSum_99 rfl (by decide) rfl inT_X5 (by decide) k_445 rfl rfl rfl rfl ?_
        refine g_iload_n C dX9_bestSum_102 0 rfl rfl ?_
        refine g_iald C dX9_bestSum_103 (okA_of rfl rfl g_7) ?_
        obtain ⟨m_9, hk_9, h⟩ := b1_some h
        refine g_vV (As := [.int (gI m (rt (gR m 0 7) 12) (gI m 47 v2.toNatClampNeg).toNatClampNeg), .int (gI m 43 (gI m 47 v2.toNatClampNeg).toNatClampNeg)]) (a := 60) (ci := 3) C dX9_bestSum_104 mf_X3_offer k_481 rfl (by decide) ⟨by decide, by decide⟩ rfl rfl (Nat.le_of_ble_eq_true rfl) (by decide) rfl (c_X3_offer N (gl Γ) C.2.2.2.2 (gw Γ) (gI m (rt (gR m 0 7) 12) (gI m 47 v2.toNatClampNeg).toNatClampNeg) (gI m 43 (gI m 47 v2.toNatClampNeg).toNatClampNeg) m _ hk_9) ?_
        refine g_iinc (q := 3) (v := v2 + (1 : Int32)) (lv' := [(2, .int (v2 + (1 : Int32))), (3, .int (gI m 47 v2.toNatClampNeg)), (0, .ref (oa (gw Γ) 0)), (1, .int v1)]) C dX9_bestSum_107 rfl rfl (by decide) rfl ?_
        refine g_goto (tgt := 29) C dX9_bestSum_110 (by decide) ?_
        refine g_sub [2, 3, 0] rfl ?_
        exact hrec v1 (v2 + (1 : Int32)) m_9 b h hE
theorem lt_X9_bestSum_29 (N : Nat) (Γ : Gc) (C : Cx Γ cX9_bestSum 4 RX9 (rmK 7 116 1)) : ∀ (n : Nat) (v1 : Int32) (v2 : Int32) (m : Mem) (b : Int32 × Mem), L_X9_bestSum_29 N n v1 v2 m = some b → Ex_X9_bestSum_29 Γ 1 b → G Γ 4 1 m 29 [(0, .ref (oa (gw Γ) 0)), (1, .int v1), (2, .int v2)] [] := by
  intro n
  induction n with
  | zero =>
    intro v1 v2 m b h
    have h9 : (none : Option (Int32 × Mem)) = some b := h
    cases h9
  | succ n ih => intro v1 v2 m b h hE; exact t_X9_bestSum_29 N Γ C (L_X9_bestSum_29 N n) b hE ih v1 v2 m h
set_option maxRecDepth 100000 in
set_option maxHeartbeats 4000000 in
theorem t_X9_bestSum (N : Nat) (Γ : Gc) (C : Cx Γ cX9_bestSum 4 RX9 (rmK 7 116 1)) (v1 : Int32) (m : Mem) (b : (Int32 ⊕ Nat) × Mem) (h : f_X9_bestSum N v1 m = some b) (hE : EI Γ 4 cX9_bestSum 1 b) : G Γ 4 0 m 0 [(0, .ref (oa (gw Γ) 0)), (1, .int v1)] [] := by
  unfold f_X9_bestSum at h
  refine g_aload_n C dX9_bestSum_0 0 rfl rfl ?_
  refine g_iload_n C dX9_bestSum_1 1 rfl rfl ?_
  rcases x1_some h with ⟨m_1, hk_1, h⟩ | ⟨e_1, m_1, hk_1, rfl⟩
  · refine g_xvV_ok (mc' := 1) (As := [.int v1]) (a := 0) (ci := 9) C dX9_bestSum_2 mf_X9_checkPanel k_414 rfl (by decide) ⟨by decide, by decide⟩ rfl rfl (Nat.le_of_ble_eq_true rfl) (by decide) rfl (c_X9_checkPanel N (gl Γ) C.2.2.2.2 (gw Γ) v1 m _ hk_1) ?_
    refine g_aload_n C dX9_bestSum_5 0 rfl rfl ?_
    refine g_getT (b := 38) (ci := 9) (j := 3) C dX9_bestSum_6 rfl (by decide) rfl inT_X9 (by decide) k_434 rfl rfl rfl rfl ?_
    refine g_aload_n C dX9_bestSum_9 0 rfl rfl ?_
    refine g_getR (ci := 9) (j := 7) C dX9_bestSum_10 rfl (by decide) rfl inT_X9 (by decide) k_333 rfl rfl rfl ?_
    refine g_aload_n C dX9_bestSum_13 0 rfl rfl ?_
    refine g_getT (b := 3) (ci := 9) (j := 1) C dX9_bestSum_14 rfl (by decide) rfl inT_X9 (by decide) k_334 rfl rfl rfl rfl ?_
    obtain ⟨m_2, hk_2, h⟩ := b1_some h
    refine g_vV (As := [.ref (oa (gw Γ) (gR m_1 0 7)), .ref (oa (gw Γ) 3)]) (a := 38) (ci := 5) C dX9_bestSum_17 mf_X5_update k_435 rfl (by decide) ⟨by decide, by decide⟩ rfl rfl (Nat.le_of_ble_eq_true rfl) (by decide) rfl (c_X5_update N (gl Γ) C.2.2.2.2 (gw Γ) (gR m_1 0 7) m_1 _ hk_2) ?_
    refine g_aload_n C dX9_bestSum_20 0 rfl rfl ?_
    refine g_getT (b := 60) (ci := 9) (j := 6) C dX9_bestSum_21 rfl (by decide) rfl inT_X9 (by decide) k_474 rfl rfl rfl rfl ?_
    obtain ⟨m_3, hk_3, h⟩ := b1_some h
    refine g_vV (As := []) (a := 60) (ci := 3) C dX9_bestSum_24 mf_X3_clear k_475 rfl (by decide) ⟨by decide, by decide⟩ rfl rfl (Nat.le_of_ble_eq_true rfl) (by decide) rfl (c_X3_clear N (gl Γ) C.2.2.2.2 (gw Γ)  m_2 _ hk_3) ?_
    refine g_iconst (v := (0 : Int32)) C dX9_bestSum_27 (by decide) ?_
    refine g_istore_n (lv' := [(2, .int (0 : Int32)), (0, .ref (oa (gw Γ) 0)), (1, .int v1)]) C dX9_bestSum_28 rfl (by decide) rfl ?_
    obtain ⟨v1_13, m_13, hx, h⟩ := l2_some h
    refine g_sub [1, 2, 0] rfl ?_
    refine lt_X9_bestSum_29 N Γ C N v1 (0 : Int32) m_3 _ hx ?_
    intro z1 m9 e9
    cases e9
    refine g_aload_n C dX9_bestSum_113 0 rfl rfl ?_
    refine g_getT (b := 60) (ci := 9) (j := 6) C dX9_bestSum_114 rfl (by decide) rfl inT_X9 (by decide) k_474 rfl rfl rfl rfl ?_
    refine g_aload_n C dX9_bestSum_117 0 rfl rfl ?_
    refine g_getR (ci := 9) (j := 7) C dX9_bestSum_118 rfl (by decide) rfl inT_X9 (by decide) k_333 rfl rfl rfl ?_
    obtain ⟨g_14, h⟩ := gd_some h
    refine g_getT (b := rt (gR m_13 0 7) 3) (ci := 6) (j := 3) C dX9_bestSum_121 rfl (by decide) rfl inT_X6 (by decide) k_485 rfl rfl rfl g_14 ?_
    refine g_iload_n C dX9_bestSum_124 1 rfl rfl ?_
    obtain ⟨g_15, h⟩ := gd_some h
    refine g_iald C dX9_bestSum_125 g_15 ?_
    obtain ⟨r_16, m_16, hk_16, h⟩ := b2_some h
    refine g_vI (As := [.int (gI m_13 (rt (gR m_13 0 7) 3) v1_13.toNatClampNeg)]) (a := 60) (ci := 3) C dX9_bestSum_126 mf_X3_best k_486 rfl (by decide) ⟨by decide, by decide⟩ rfl rfl (Nat.le_of_ble_eq_true rfl) (by decide) rfl (c_X3_best N (gl Γ) C.2.2.2.2 (gw Γ) (gI m_13 (rt (gR m_13 0 7) 3) v1_13.toNatClampNeg) m_13 _ hk_16) ?_
    obtain rfl := Option.some.inj h
    exact (hE).1 _ rfl 1 (by decide) 129 _ dX9_bestSum_129
  · exact g_xvV_th (mc' := 1) (As := [.int v1]) (a := 0) (ci := 9) C dX9_bestSum_2 mf_X9_checkPanel k_414 rfl (by decide) ⟨by decide, by decide⟩ rfl rfl (Nat.le_of_ble_eq_true rfl) (by decide) rfl (c_X9_checkPanel N (gl Γ) C.2.2.2.2 (gw Γ) v1 m _ hk_1) (hE.2 _ rfl)
theorem c_X9_bestSum (N : Nat) (l : Launch) (hst : l.stackTraces = false) (w : Om) (v1 : Int32) (m : Mem) (o : (Int32 ⊕ Nat) × Mem) (h : f_X9_bestSum N v1 m = some o) : XI l yX9_bestSum cX9_bestSum 4 (some .int) 7 116 1 w [.ref (oa w 0), .int v1] m o := XI_of hst (by decide +kernel) RX9 rfl (Nat.le_of_ble_eq_true rfl) (fun Γ hw hl C hE => by
  subst hw; subst hl
  exact t_X9_bestSum N Γ C v1 m o h hE)
set_option maxRecDepth 100000 in
set_option maxHeartbeats 4000000 in
theorem t_X9_lineFor_15 (N : Nat) (Γ : Gc) (C : Cx Γ cX9_lineFor 5 RX9 (rmK 7 116 2)) (b : (Int32 ⊕ Nat) × Mem) (hE : EI Γ 5 cX9_lineFor 2 b)  (m : Mem) (h : B_X9_lineFor_15 N  m = some b) : G Γ 5 1 m 15 [] [] := by
  unfold B_X9_lineFor_15 at h
  obtain rfl := Option.some.inj h
  exact g_throwW (n := 31) C tf_1 dX9_lineFor_15 dX9_lineFor_18 dX9_lineFor_19 dX9_lineFor_22 dX9_lineFor_25 (List.mem_of_getElem? (i := 31) rfl) (by decide) (Nat.le_of_ble_eq_true rfl) (by decide) ((hE).2 1 rfl)
def Ex_X9_lineFor_43 (Γ : Gc) (cs : Nat) (b : (Mem) ⊕ (Mem) ⊕ (Int32 × Mem)) : Prop := (∀  (m' : Mem), b = .inl (m') → G Γ 5 cs m' 134 [] []) ∧ (∀  (m' : Mem), b = .inr (.inl (m')) → G Γ 5 cs m' 84 [] []) ∧ (∀ (y4 : Int32) (m' : Mem), b = .inr (.inr ((y4, m'))) → G Γ 5 cs m' 125 [(4, .int y4)] [])
set_option maxRecDepth 100000 in
set_option maxHeartbeats 4000000 in
theorem t_X9_lineFor_43 (N : Nat) (Γ : Gc) (C : Cx Γ cX9_lineFor 5 RX9 (rmK 7 116 2)) (rc : Int32 → Int32 → Int32 → Mem → Option ((Mem) ⊕ (Mem) ⊕ (Int32 × Mem))) (b : (Mem) ⊕ (Mem) ⊕ (Int32 × Mem)) (hE : Ex_X9_lineFor_43 Γ 1 b) (hrec : ∀ (v1 : Int32) (v2 : Int32) (v3 : Int32) (m : Mem) (b : (Mem) ⊕ (Mem) ⊕ (Int32 × Mem)), rc v1 v2 v3 m = some b → Ex_X9_lineFor_43 Γ 1 b → G Γ 5 1 m 43 [(0, .ref (oa (gw Γ) 0)), (1, .int v1), (2, .int v2), (3, .int v3)] []) (v1 : Int32) (v2 : Int32) (v3 : Int32) (m : Mem) (h : T_X9_lineFor_43 N rc v1 v2 v3 m = some b) : G Γ 5 1 m 43 [(0, .ref (oa (gw Γ) 0)), (1, .int v1), (2, .int v2), (3, .int v3)] [] := by
  unfold T_X9_lineFor_43 at h
  refine g_iload_n C dX9_lineFor_43 3 rfl rfl ?_
  refine g_aload_n C dX9_lineFor_44 0 rfl rfl ?_
  refine g_getT (b := 38) (ci := 9) (j := 3) C dX9_lineFor_45 rfl (by decide) rfl inT_X9 (by decide) k_434 rfl rfl rfl rfl ?_
  refine g_getI (ci := 5) (j := 9) C dX9_lineFor_48 rfl (by decide) rfl inT_X5 (by decide) k_450 rfl rfl ?_
  refine g_icmp_ge (tgt := 134) C dX9_lineFor_51 (by decide) (fun c_11 => ?_) (fun c_11 => ?_)
  · replace h := it_t c_11 h
    obtain rfl := Option.some.inj h
    refine g_sub [] rfl ?_
    exact hE.1 _ rfl
  · replace h := it_f c_11 h
    refine g_aload_n C dX9_lineFor_54 0 rfl rfl ?_
    refine g_getT (b := 38) (ci := 9) (j := 3) C dX9_lineFor_55 rfl (by decide) rfl inT_X9 (by decide) k_434 rfl rfl rfl rfl ?_
    refine g_getT (b := 43) (ci := 5) (j := 4) C dX9_lineFor_58 rfl (by decide) rfl inT_X5 (by decide) k_445 rfl rfl rfl rfl ?_
    refine g_aload_n C dX9_lineFor_61 0 rfl rfl ?_
    refine g_getT (b := 38) (ci := 9) (j := 3) C dX9_lineFor_62 rfl (by decide) rfl inT_X9 (by decide) k_434 rfl rfl rfl rfl ?_
    refine g_getT (b := 47) (ci := 5) (j := 8) C dX9_lineFor_65 rfl (by decide) rfl inT_X5 (by decide) k_451 rfl rfl rfl rfl ?_
    refine g_iload_n C dX9_lineFor_68 3 rfl rfl ?_
    obtain ⟨g_3, h⟩ := gd_some h
    refine g_iald C dX9_lineFor_69 (okA_of rfl rfl g_3) ?_
    obtain ⟨g_4, h⟩ := gd_some h
    refine g_iald C dX9_lineFor_70 (okA_of rfl rfl g_4) ?_
    refine g_ldc_w (v := (100000 : Int32)) C dX9_lineFor_71 k_453 ?_
    refine g_min C dX9_lineFor_74 k_490 k_60 k_61 k_62 (by decide) (Nat.le_of_ble_eq_true rfl) (by decide) ?_
    refine g_istore (lv' := [(4, .int (if (100000 : Int32) < (gI m 43 (gI m 47 v3.toNatClampNeg).toNatClampNeg) then (100000 : Int32) else (gI m 43 (gI m 47 v3.toNatClampNeg).toNatClampNeg))), (0, .ref (oa (gw Γ) 0)), (1, .int v1), (2, .int v2), (3, .int v3)]) C dX9_lineFor_77 (by decide) rfl ?_
    refine g_iload C dX9_lineFor_79 0 rfl ?_
    refine g_if_ge (tgt := 86) C dX9_lineFor_81 (by decide) (fun c_10 => ?_) (fun c_10 => ?_)
    · replace h := it_t c_10 h
      refine g_aload_n C dX9_lineFor_86 1 rfl rfl ?_
      refine g_getT (b := 48) (ci := 9) (j := 4) C dX9_lineFor_87 rfl (by decide) rfl inT_X9 (by decide) k_455 rfl rfl rfl rfl ?_
      refine g_aload_n C dX9_lineFor_90 1 rfl rfl ?_
      refine g_getR (ci := 9) (j := 7) C dX9_lineFor_91 rfl (by decide) rfl inT_X9 (by decide) k_333 rfl rfl rfl ?_
      refine g_aload_n C dX9_lineFor_94 1 rfl rfl ?_
      refine g_getT (b := 38) (ci := 9) (j := 3) C dX9_lineFor_95 rfl (by decide) rfl inT_X9 (by decide) k_434 rfl rfl rfl rfl ?_
      refine g_iload_n C dX9_lineFor_98 2 rfl rfl ?_
      refine g_iload C dX9_lineFor_99 0 rfl ?_
      obtain ⟨m_5, hk_5, h⟩ := b1_some h
      refine g_vV (As := [.ref (oa (gw Γ) (gR m 0 7)), .ref (oa (gw Γ) 38), .int v1, .int (if (100000 : Int32) < (gI m 43 (gI m 47 v3.toNatClampNeg).toNatClampNeg) then (100000 : Int32) else (gI m 43 (gI m 47 v3.toNatClampNeg).toNatClampNeg))]) (a := 48) (ci := 1) C dX9_lineFor_101 mf_X1_distribute k_456 rfl (by decide) ⟨by decide, by decide⟩ rfl rfl (Nat.le_of_ble_eq_true rfl) (by decide) rfl (c_X1_distribute N (gl Γ) C.2.2.2.2 (gw Γ) (gR m 0 7) v1 (if (100000 : Int32) < (gI m 43 (gI m 47 v3.toNatClampNeg).toNatClampNeg) then (100000 : Int32) else (gI m 43 (gI m 47 v3.toNatClampNeg).toNatClampNeg)) m _ hk_5) ?_
      refine g_aload_n C dX9_lineFor_104 1 rfl rfl ?_
      refine g_getT (b := 48) (ci := 9) (j := 4) C dX9_lineFor_105 rfl (by decide) rfl inT_X9 (by decide) k_455 rfl rfl rfl rfl ?_
      refine g_aload_n C dX9_lineFor_108 1 rfl rfl ?_
      refine g_getR (ci := 9) (j := 7) C dX9_lineFor_109 rfl (by decide) rfl inT_X9 (by decide) k_333 rfl rfl rfl ?_
      obtain ⟨g_6, h⟩ := gd_some h
      refine g_getI (ci := 6) (j := 2) C dX9_lineFor_112 rfl (by decide) rfl inT_X6 (by decide) k_345 rfl g_6 ?_
      obtain ⟨r_7, m_7, hk_7, h⟩ := b2_some h
      refine g_vI (As := [.int (gI m_5 (gR m_5 0 7) 2)]) (a := 48) (ci := 1) C dX9_lineFor_115 mf_X1_winners k_470 rfl (by decide) ⟨by decide, by decide⟩ rfl rfl (Nat.le_of_ble_eq_true rfl) (by decide) rfl (c_X1_winners N (gl Γ) C.2.2.2.2 (gw Γ) (gI m_5 (gR m_5 0 7) 2) m_5 _ hk_7) ?_
      obtain ⟨r_8, m_8, hk_8, h⟩ := b2_some h
      refine g_sI (As := [.int r_7]) C dX9_lineFor_118 mf_J6_bitCount_0f7a4 k_363 ⟨by decide, by decide⟩ rfl rfl (Nat.le_of_ble_eq_true rfl) (by decide) (c_J6_bitCount_0f7a4 N (gl Γ) C.2.2.2.2 (gw Γ) r_7 m_7 _ hk_8) ?_
      refine g_iload_n C dX9_lineFor_121 3 rfl rfl ?_
      refine g_icmp_lt (tgt := 128) C dX9_lineFor_122 (by decide) (fun c_9 => ?_) (fun c_9 => ?_)
      · replace h := it_t c_9 h
        refine g_iinc (q := 4) (v := v3 + (1 : Int32)) (lv' := [(3, .int (v3 + (1 : Int32))), (4, .int (if (100000 : Int32) < (gI m 43 (gI m 47 v3.toNatClampNeg).toNatClampNeg) then (100000 : Int32) else (gI m 43 (gI m 47 v3.toNatClampNeg).toNatClampNeg))), (0, .ref (oa (gw Γ) 0)), (1, .int v1), (2, .int v2)]) C dX9_lineFor_128 rfl rfl (by decide) rfl ?_
        refine g_goto (tgt := 43) C dX9_lineFor_131 (by decide) ?_
        refine g_sub [2, 3, 4, 0] rfl ?_
        exact hrec v1 v2 (v3 + (1 : Int32)) m_8 b h hE
      · replace h := it_f c_9 h
        obtain rfl := Option.some.inj h
        refine g_sub [0] rfl ?_
        exact hE.2.2 _ _ rfl
    · replace h := it_f c_10 h
      obtain rfl := Option.some.inj h
      refine g_sub [] rfl ?_
      exact hE.2.1 _ rfl
theorem lt_X9_lineFor_43 (N : Nat) (Γ : Gc) (C : Cx Γ cX9_lineFor 5 RX9 (rmK 7 116 2)) : ∀ (n : Nat) (v1 : Int32) (v2 : Int32) (v3 : Int32) (m : Mem) (b : (Mem) ⊕ (Mem) ⊕ (Int32 × Mem)), L_X9_lineFor_43 N n v1 v2 v3 m = some b → Ex_X9_lineFor_43 Γ 1 b → G Γ 5 1 m 43 [(0, .ref (oa (gw Γ) 0)), (1, .int v1), (2, .int v2), (3, .int v3)] [] := by
  intro n
  induction n with
  | zero =>
    intro v1 v2 v3 m b h
    have h9 : (none : Option ((Mem) ⊕ (Mem) ⊕ (Int32 × Mem))) = some b := h
    cases h9
  | succ n ih => intro v1 v2 v3 m b h hE; exact t_X9_lineFor_43 N Γ C (L_X9_lineFor_43 N n) b hE ih v1 v2 v3 m h
set_option maxRecDepth 100000 in
set_option maxHeartbeats 4000000 in
theorem t_X9_lineFor (N : Nat) (Γ : Gc) (C : Cx Γ cX9_lineFor 5 RX9 (rmK 7 116 2)) (v1 : Int32) (v2 : Int32) (m : Mem) (b : (Int32 ⊕ Nat) × Mem) (h : f_X9_lineFor N v1 v2 m = some b) (hE : EI Γ 5 cX9_lineFor 2 b) : G Γ 5 0 m 0 [(0, .ref (oa (gw Γ) 0)), (1, .int v1), (2, .int v2)] [] := by
  unfold f_X9_lineFor at h
  refine g_iload_n C dX9_lineFor_0 1 rfl rfl ?_
  rcases x1_some h with ⟨m_1, hk_1, h⟩ | ⟨e_1, m_1, hk_1, rfl⟩
  · refine g_xsV_ok (mc' := 1) (As := [.int v1]) C dX9_lineFor_1 mf_X9_checkMode k_460 ⟨by decide, by decide⟩ rfl rfl (Nat.le_of_ble_eq_true rfl) (by decide) (c_X9_checkMode N (gl Γ) C.2.2.2.2 (gw Γ) v1 m _ hk_1) ?_
    refine g_iload_n C dX9_lineFor_4 2 rfl rfl ?_
    refine g_iconst (v := (1 : Int32)) C dX9_lineFor_5 (by decide) ?_
    refine g_icmp_lt (tgt := 15) C dX9_lineFor_6 (by decide) (fun c_14 => ?_) (fun c_14 => ?_)
    · replace h := it_t c_14 h
      refine g_sub [] rfl ?_
      exact t_X9_lineFor_15 N Γ C b hE  m_1 h
    · replace h := it_f c_14 h
      refine g_iload_n C dX9_lineFor_9 2 rfl rfl ?_
      refine g_bipush (v := (16 : Int32)) C dX9_lineFor_10 (by decide) ?_
      refine g_icmp_le (tgt := 26) C dX9_lineFor_12 (by decide) (fun c_13 => ?_) (fun c_13 => ?_)
      · replace h := it_t c_13 h
        refine g_aload_n C dX9_lineFor_26 0 rfl rfl ?_
        refine g_getT (b := 38) (ci := 9) (j := 3) C dX9_lineFor_27 rfl (by decide) rfl inT_X9 (by decide) k_434 rfl rfl rfl rfl ?_
        refine g_aload_n C dX9_lineFor_30 0 rfl rfl ?_
        refine g_getR (ci := 9) (j := 7) C dX9_lineFor_31 rfl (by decide) rfl inT_X9 (by decide) k_333 rfl rfl rfl ?_
        refine g_aload_n C dX9_lineFor_34 0 rfl rfl ?_
        refine g_getT (b := 3) (ci := 9) (j := 1) C dX9_lineFor_35 rfl (by decide) rfl inT_X9 (by decide) k_334 rfl rfl rfl rfl ?_
        obtain ⟨m_2, hk_2, h⟩ := b1_some h
        refine g_vV (As := [.ref (oa (gw Γ) (gR m_1 0 7)), .ref (oa (gw Γ) 3)]) (a := 38) (ci := 5) C dX9_lineFor_38 mf_X5_update k_435 rfl (by decide) ⟨by decide, by decide⟩ rfl rfl (Nat.le_of_ble_eq_true rfl) (by decide) rfl (c_X5_update N (gl Γ) C.2.2.2.2 (gw Γ) (gR m_1 0 7) m_1 _ hk_2) ?_
        refine g_iconst (v := (0 : Int32)) C dX9_lineFor_41 (by decide) ?_
        refine g_istore_n (lv' := [(3, .int (0 : Int32)), (0, .ref (oa (gw Γ) 0)), (1, .int v1), (2, .int v2)]) C dX9_lineFor_42 rfl (by decide) rfl ?_
        obtain ⟨x9, hx, h⟩ := ob_some h
        refine g_sub [1, 2, 3, 0] rfl ?_
        refine lt_X9_lineFor_43 N Γ C N v1 v2 (0 : Int32) m_2 _ hx ?_
        refine ⟨?_, ?_, ?_⟩
        · intro  m_12 e9
          subst e9
          replace h : (some (.inl (-1 : Int32), m_12)) = some b := h
          refine g_iconst (v := (-1 : Int32)) C dX9_lineFor_134 (by decide) ?_
          obtain rfl := Option.some.inj h
          exact (hE).1 _ rfl 1 (by decide) 135 _ dX9_lineFor_135
        · intro  m_12 e9
          subst e9
          replace h : (some (.inl (-1 : Int32), m_12)) = some b := h
          refine g_iconst (v := (-1 : Int32)) C dX9_lineFor_84 (by decide) ?_
          obtain rfl := Option.some.inj h
          exact (hE).1 _ rfl 1 (by decide) 85 _ dX9_lineFor_85
        · intro v4_12 m_12 e9
          subst e9
          replace h : (some (.inl v4_12, m_12)) = some b := h
          refine g_iload C dX9_lineFor_125 0 rfl ?_
          obtain rfl := Option.some.inj h
          exact (hE).1 _ rfl 1 (by decide) 127 _ dX9_lineFor_127
      · replace h := it_f c_13 h
        refine g_sub [] rfl ?_
        exact t_X9_lineFor_15 N Γ C b hE  m_1 h
  · exact g_xsV_th (mc' := 1) (As := [.int v1]) C dX9_lineFor_1 mf_X9_checkMode k_460 ⟨by decide, by decide⟩ rfl rfl (Nat.le_of_ble_eq_true rfl) (by decide) (c_X9_checkMode N (gl Γ) C.2.2.2.2 (gw Γ) v1 m _ hk_1) (hE.2 _ rfl)
theorem c_X9_lineFor (N : Nat) (l : Launch) (hst : l.stackTraces = false) (w : Om) (v1 : Int32) (v2 : Int32) (m : Mem) (o : (Int32 ⊕ Nat) × Mem) (h : f_X9_lineFor N v1 v2 m = some o) : XI l yX9_lineFor cX9_lineFor 5 (some .int) 7 116 2 w [.ref (oa w 0), .int v1, .int v2] m o := XI_of hst (by decide +kernel) RX9 rfl (Nat.le_of_ble_eq_true rfl) (fun Γ hw hl C hE => by
  subst hw; subst hl
  exact t_X9_lineFor N Γ C v1 v2 m o h hE)
def Ex_X9_appeal_20 (Γ : Gc) (cs : Nat) (b : Int32 × Int32 × Int32 × Int32 × Mem) : Prop := (∀ (y1 : Int32) (y2 : Int32) (y3 : Int32) (y4 : Int32) (m' : Mem), b = (y1, y2, y3, y4, m') → G Γ 6 cs m' 75 [(0, .ref (oa (gw Γ) 0)), (1, .int y1), (2, .int y2), (3, .int y3), (4, .int y4)] [])
set_option maxRecDepth 100000 in
set_option maxHeartbeats 4000000 in
theorem t_X9_appeal_20 (N : Nat) (Γ : Gc) (C : Cx Γ cX9_appeal 6 RX9 (rmK 8 133 4)) (rc : Int32 → Int32 → Int32 → Int32 → Int32 → Mem → Option (Int32 × Int32 × Int32 × Int32 × Mem)) (b : Int32 × Int32 × Int32 × Int32 × Mem) (hE : Ex_X9_appeal_20 Γ 3 b) (hrec : ∀ (v1 : Int32) (v2 : Int32) (v3 : Int32) (v4 : Int32) (v5 : Int32) (m : Mem) (b : Int32 × Int32 × Int32 × Int32 × Mem), rc v1 v2 v3 v4 v5 m = some b → Ex_X9_appeal_20 Γ 3 b → G Γ 6 3 m 20 [(0, .ref (oa (gw Γ) 0)), (1, .int v1), (2, .int v2), (3, .int v3), (4, .int v4), (5, .int v5)] []) (v1 : Int32) (v2 : Int32) (v3 : Int32) (v4 : Int32) (v5 : Int32) (m : Mem) (h : T_X9_appeal_20 N rc v1 v2 v3 v4 v5 m = some b) : G Γ 6 3 m 20 [(0, .ref (oa (gw Γ) 0)), (1, .int v1), (2, .int v2), (3, .int v3), (4, .int v4), (5, .int v5)] [] := by
  unfold T_X9_appeal_20 at h
  refine g_iload C dX9_appeal_20 5 rfl ?_
  refine g_aload_n C dX9_appeal_22 0 rfl rfl ?_
  refine g_getR (ci := 9) (j := 7) C dX9_appeal_23 rfl (by decide) rfl inT_X9 (by decide) k_333 rfl rfl rfl ?_
  obtain ⟨g_3, h⟩ := gd_some h
  refine g_getI (ci := 6) (j := 1) C dX9_appeal_26 rfl (by decide) rfl inT_X6 (by decide) k_349 rfl g_3 ?_
  refine g_icmp_ge (tgt := 75) C dX9_appeal_29 (by decide) (fun c_8 => ?_) (fun c_8 => ?_)
  · replace h := it_t c_8 h
    obtain rfl := Option.some.inj h
    refine g_sub [0, 1, 2, 3, 4] rfl ?_
    exact hE _ _ _ _ _ rfl
  · replace h := it_f c_8 h
    refine g_iload C dX9_appeal_32 5 rfl ?_
    refine g_iload_n C dX9_appeal_34 1 rfl rfl ?_
    refine g_icmp_eq (tgt := 69) C dX9_appeal_35 (by decide) (fun c_7 => ?_) (fun c_7 => ?_)
    · replace h := it_t c_7 h
      refine g_iinc (q := 5) (v := v5 + (1 : Int32)) (lv' := [(5, .int (v5 + (1 : Int32))), (0, .ref (oa (gw Γ) 0)), (1, .int v1), (2, .int v2), (3, .int v3), (4, .int v4)]) C dX9_appeal_69 rfl rfl (by decide) rfl ?_
      refine g_goto (tgt := 20) C dX9_appeal_72 (by decide) ?_
      refine g_sub [1, 2, 3, 4, 5, 0] rfl ?_
      exact hrec v1 v2 v3 v4 (v5 + (1 : Int32)) m b h hE
    · replace h := it_f c_7 h
      refine g_aload_n C dX9_appeal_38 0 rfl rfl ?_
      refine g_getT (b := 3) (ci := 9) (j := 1) C dX9_appeal_39 rfl (by decide) rfl inT_X9 (by decide) k_334 rfl rfl rfl rfl ?_
      refine g_iload C dX9_appeal_42 5 rfl ?_
      refine g_iload_n C dX9_appeal_44 2 rfl rfl ?_
      obtain ⟨r_4, m_4, hk_4, h⟩ := b2_some h
      refine g_vI (As := [.int v5, .int v2]) (a := 3) (ci := 7) C dX9_appeal_45 mf_X7_hasScore k_429 rfl (by decide) ⟨by decide, by decide⟩ rfl rfl (Nat.le_of_ble_eq_true rfl) (by decide) rfl (c_X7_hasScore N (gl Γ) C.2.2.2.2 (gw Γ) v5 v2 m _ hk_4) ?_
      refine g_if_eq (tgt := 69) C dX9_appeal_48 (by decide) (fun c_6 => ?_) (fun c_6 => ?_)
      · replace h := it_t c_6 h
        refine g_iinc (q := 5) (v := v5 + (1 : Int32)) (lv' := [(5, .int (v5 + (1 : Int32))), (0, .ref (oa (gw Γ) 0)), (1, .int v1), (2, .int v2), (3, .int v3), (4, .int v4)]) C dX9_appeal_69 rfl rfl (by decide) rfl ?_
        refine g_goto (tgt := 20) C dX9_appeal_72 (by decide) ?_
        refine g_sub [1, 2, 3, 4, 5, 0] rfl ?_
        exact hrec v1 v2 v3 v4 (v5 + (1 : Int32)) m_4 b h hE
      · replace h := it_f c_6 h
        refine g_iinc (q := 3) (v := v3 + (1 : Int32)) (lv' := [(3, .int (v3 + (1 : Int32))), (0, .ref (oa (gw Γ) 0)), (1, .int v1), (2, .int v2), (4, .int v4), (5, .int v5)]) C dX9_appeal_51 rfl rfl (by decide) rfl ?_
        refine g_iload C dX9_appeal_54 4 rfl ?_
        refine g_aload_n C dX9_appeal_56 1 rfl rfl ?_
        refine g_getT (b := 3) (ci := 9) (j := 1) C dX9_appeal_57 rfl (by decide) rfl inT_X9 (by decide) k_334 rfl rfl rfl rfl ?_
        refine g_iload C dX9_appeal_60 5 rfl ?_
        refine g_iload_n C dX9_appeal_62 3 rfl rfl ?_
        obtain ⟨r_5, m_5, hk_5, h⟩ := b2_some h
        refine g_vI (As := [.int v5, .int v2]) (a := 3) (ci := 7) C dX9_appeal_63 mf_X7_scoreAt k_409 rfl (by decide) ⟨by decide, by decide⟩ rfl rfl (Nat.le_of_ble_eq_true rfl) (by decide) rfl (c_X7_scoreAt N (gl Γ) C.2.2.2.2 (gw Γ) v5 v2 m_4 _ hk_5) ?_
        refine g_iadd C dX9_appeal_66 ?_
        refine g_istore (lv' := [(4, .int (v4 + r_5)), (3, .int (v3 + (1 : Int32))), (0, .ref (oa (gw Γ) 0)), (1, .int v1), (2, .int v2), (5, .int v5)]) C dX9_appeal_67 (by decide) rfl ?_
        refine g_iinc (q := 5) (v := v5 + (1 : Int32)) (lv' := [(5, .int (v5 + (1 : Int32))), (4, .int (v4 + r_5)), (3, .int (v3 + (1 : Int32))), (0, .ref (oa (gw Γ) 0)), (1, .int v1), (2, .int v2)]) C dX9_appeal_69 rfl rfl (by decide) rfl ?_
        refine g_goto (tgt := 20) C dX9_appeal_72 (by decide) ?_
        refine g_sub [3, 4, 5, 2, 1, 0] rfl ?_
        exact hrec v1 v2 (v3 + (1 : Int32)) (v4 + r_5) (v5 + (1 : Int32)) m_5 b h hE
theorem lt_X9_appeal_20 (N : Nat) (Γ : Gc) (C : Cx Γ cX9_appeal 6 RX9 (rmK 8 133 4)) : ∀ (n : Nat) (v1 : Int32) (v2 : Int32) (v3 : Int32) (v4 : Int32) (v5 : Int32) (m : Mem) (b : Int32 × Int32 × Int32 × Int32 × Mem), L_X9_appeal_20 N n v1 v2 v3 v4 v5 m = some b → Ex_X9_appeal_20 Γ 3 b → G Γ 6 3 m 20 [(0, .ref (oa (gw Γ) 0)), (1, .int v1), (2, .int v2), (3, .int v3), (4, .int v4), (5, .int v5)] [] := by
  intro n
  induction n with
  | zero =>
    intro v1 v2 v3 v4 v5 m b h
    have h9 : (none : Option (Int32 × Int32 × Int32 × Int32 × Mem)) = some b := h
    cases h9
  | succ n ih => intro v1 v2 v3 v4 v5 m b h hE; exact t_X9_appeal_20 N Γ C (L_X9_appeal_20 N n) b hE ih v1 v2 v3 v4 v5 m h
set_option maxRecDepth 100000 in
set_option maxHeartbeats 4000000 in
theorem t_X9_appeal_90 (N : Nat) (Γ : Gc) (C : Cx Γ cX9_appeal 6 RX9 (rmK 8 133 4)) (b : (Int32 ⊕ Nat) × Mem) (hE : EZ Γ 6 cX9_appeal 4 b)  (m : Mem) (h : B_X9_appeal_90 N  m = some b) : G Γ 6 3 m 90 [] [] := by
  unfold B_X9_appeal_90 at h
  obtain rfl := Option.some.inj h
  exact g_throwW (n := 32) C tf_0 dX9_appeal_90 dX9_appeal_93 dX9_appeal_94 dX9_appeal_97 dX9_appeal_100 (List.mem_of_getElem? (i := 32) rfl) (by decide) (Nat.le_of_ble_eq_true rfl) (by decide) ((hE).2 0 rfl)
set_option maxRecDepth 100000 in
set_option maxHeartbeats 4000000 in
theorem t_X9_appeal (N : Nat) (Γ : Gc) (C : Cx Γ cX9_appeal 6 RX9 (rmK 8 133 4)) (v1 : Int32) (v2 : Int32) (m : Mem) (b : (Int32 ⊕ Nat) × Mem) (h : f_X9_appeal N v1 v2 m = some b) (hE : EZ Γ 6 cX9_appeal 4 b) : G Γ 6 0 m 0 [(0, .ref (oa (gw Γ) 0)), (1, .int v1), (2, .int v2)] [] := by
  unfold f_X9_appeal at h
  refine g_aload_n C dX9_appeal_0 0 rfl rfl ?_
  refine g_iload_n C dX9_appeal_1 1 rfl rfl ?_
  refine g_iload_n C dX9_appeal_2 2 rfl rfl ?_
  rcases x1_some h with ⟨m_1, hk_1, h⟩ | ⟨e_1, m_1, hk_1, rfl⟩
  · refine g_xvV_ok (mc' := 2) (As := [.int v1, .int v2]) (a := 0) (ci := 9) C dX9_appeal_3 mf_X9_checkPair k_372 rfl (by decide) ⟨by decide, by decide⟩ rfl rfl (Nat.le_of_ble_eq_true rfl) (by decide) rfl (c_X9_checkPair N (gl Γ) C.2.2.2.2 (gw Γ) v1 v2 m _ hk_1) ?_
    refine g_aload_n C dX9_appeal_6 0 rfl rfl ?_
    refine g_iload_n C dX9_appeal_7 1 rfl rfl ?_
    refine g_iload_n C dX9_appeal_8 2 rfl rfl ?_
    rcases x1_some h with ⟨m_2, hk_2, h⟩ | ⟨e_2, m_2, hk_2, rfl⟩
    · refine g_xvV_ok (mc' := 1) (As := [.int v1, .int v2]) (a := 0) (ci := 9) C dX9_appeal_9 mf_X9_checkScore k_430 rfl (by decide) ⟨by decide, by decide⟩ rfl rfl (Nat.le_of_ble_eq_true rfl) (by decide) rfl (c_X9_checkScore N (gl Γ) C.2.2.2.2 (gw Γ) v1 v2 m_1 _ hk_2) ?_
      refine g_iconst (v := (0 : Int32)) C dX9_appeal_12 (by decide) ?_
      refine g_istore_n (lv' := [(3, .int (0 : Int32)), (0, .ref (oa (gw Γ) 0)), (1, .int v1), (2, .int v2)]) C dX9_appeal_13 rfl (by decide) rfl ?_
      refine g_iconst (v := (0 : Int32)) C dX9_appeal_14 (by decide) ?_
      refine g_istore (lv' := [(4, .int (0 : Int32)), (3, .int (0 : Int32)), (0, .ref (oa (gw Γ) 0)), (1, .int v1), (2, .int v2)]) C dX9_appeal_15 (by decide) rfl ?_
      refine g_iconst (v := (0 : Int32)) C dX9_appeal_17 (by decide) ?_
      refine g_istore (lv' := [(5, .int (0 : Int32)), (4, .int (0 : Int32)), (3, .int (0 : Int32)), (0, .ref (oa (gw Γ) 0)), (1, .int v1), (2, .int v2)]) C dX9_appeal_18 (by decide) rfl ?_
      obtain ⟨v1_9, v2_9, v3_9, v4_9, m_9, hx, h⟩ := l5_some h
      refine g_sub [3, 4, 5, 2, 1, 0] rfl ?_
      refine lt_X9_appeal_20 N Γ C N v1 v2 (0 : Int32) (0 : Int32) (0 : Int32) m_2 _ hx ?_
      intro z1 z2 z3 z4 m9 e9
      cases e9
      refine g_iload_n C dX9_appeal_75 3 rfl rfl ?_
      refine g_if_eq (tgt := 90) C dX9_appeal_76 (by decide) (fun c_19 => ?_) (fun c_19 => ?_)
      · replace h := it_t c_19 h
        refine g_sub [] rfl ?_
        exact t_X9_appeal_90 N Γ C b hE  m_9 h
      · replace h := it_f c_19 h
        refine g_aload_n C dX9_appeal_79 0 rfl rfl ?_
        refine g_getT (b := 3) (ci := 9) (j := 1) C dX9_appeal_80 rfl (by decide) rfl inT_X9 (by decide) k_334 rfl rfl rfl rfl ?_
        refine g_iload_n C dX9_appeal_83 2 rfl rfl ?_
        obtain ⟨r_10, m_10, hk_10, h⟩ := b2_some h
        refine g_vI (As := [.int v2_9]) (a := 3) (ci := 7) C dX9_appeal_84 mf_X7_isGranted k_491 rfl (by decide) ⟨by decide, by decide⟩ rfl rfl (Nat.le_of_ble_eq_true rfl) (by decide) rfl (c_X7_isGranted N (gl Γ) C.2.2.2.2 (gw Γ) v2_9 m_9 _ hk_10) ?_
        refine g_if_eq (tgt := 101) C dX9_appeal_87 (by decide) (fun c_18 => ?_) (fun c_18 => ?_)
        · replace h := it_t c_18 h
          refine g_iload_n C dX9_appeal_101 3 rfl rfl ?_
          refine g_aload_n C dX9_appeal_102 0 rfl rfl ?_
          refine g_getT (b := 3) (ci := 9) (j := 1) C dX9_appeal_103 rfl (by decide) rfl inT_X9 (by decide) k_334 rfl rfl rfl rfl ?_
          refine g_iload_n C dX9_appeal_106 1 rfl rfl ?_
          refine g_iload_n C dX9_appeal_107 2 rfl rfl ?_
          obtain ⟨r_11, m_11, hk_11, h⟩ := b2_some h
          refine g_vI (As := [.int v1_9, .int v2_9]) (a := 3) (ci := 7) C dX9_appeal_108 mf_X7_scoreAt k_409 rfl (by decide) ⟨by decide, by decide⟩ rfl rfl (Nat.le_of_ble_eq_true rfl) (by decide) rfl (c_X7_scoreAt N (gl Γ) C.2.2.2.2 (gw Γ) v1_9 v2_9 m_10 _ hk_11) ?_
          refine g_imul C dX9_appeal_111 ?_
          refine g_iload C dX9_appeal_112 4 rfl ?_
          refine g_isub C dX9_appeal_114 ?_
          refine g_abs C dX9_appeal_115 k_448 k_189 k_61 k_190 (by decide) (Nat.le_of_ble_eq_true rfl) (by decide) ?_
          refine g_istore (lv' := [(5, .int (if 0 ≤ ((v3_9 * r_11) - v4_9) then ((v3_9 * r_11) - v4_9) else 0 - ((v3_9 * r_11) - v4_9))), (0, .ref (oa (gw Γ) 0)), (1, .int v1_9), (2, .int v2_9), (3, .int v3_9), (4, .int v4_9)]) C dX9_appeal_118 (by decide) rfl ?_
          refine g_iload C dX9_appeal_120 0 rfl ?_
          refine g_iload_n C dX9_appeal_122 4 rfl rfl ?_
          refine g_aload_n C dX9_appeal_123 1 rfl rfl ?_
          refine g_getR (ci := 9) (j := 7) C dX9_appeal_124 rfl (by decide) rfl inT_X9 (by decide) k_333 rfl rfl rfl ?_
          obtain ⟨g_12, h⟩ := gd_some h
          refine g_getI (ci := 6) (j := 15) C dX9_appeal_127 rfl (by decide) rfl inT_X6 (by decide) k_495 rfl g_12 ?_
          refine g_imul C dX9_appeal_130 ?_
          refine g_icmp_gt (tgt := 136) C dX9_appeal_131 (by decide) (fun c_17 => ?_) (fun c_17 => ?_)
          · replace h := it_t c_17 h
            refine g_aload_n C dX9_appeal_136 1 rfl rfl ?_
            refine g_getT (b := 6) (ci := 9) (j := 2) C dX9_appeal_137 rfl (by decide) rfl inT_X9 (by decide) k_339 rfl rfl rfl rfl ?_
            refine g_aload_n C dX9_appeal_140 1 rfl rfl ?_
            refine g_getT (b := 3) (ci := 9) (j := 1) C dX9_appeal_141 rfl (by decide) rfl inT_X9 (by decide) k_334 rfl rfl rfl rfl ?_
            obtain ⟨m_13, hk_13, h⟩ := b1_some h
            refine g_vV (As := [.ref (oa (gw Γ) 3)]) (a := 6) (ci := 2) C dX9_appeal_144 mf_X2_remember k_378 rfl (by decide) ⟨by decide, by decide⟩ rfl rfl (Nat.le_of_ble_eq_true rfl) (by decide) rfl (c_X2_remember N (gl Γ) C.2.2.2.2 (gw Γ)  m_11 _ hk_13) ?_
            refine g_aload_n C dX9_appeal_147 1 rfl rfl ?_
            refine g_getT (b := 3) (ci := 9) (j := 1) C dX9_appeal_148 rfl (by decide) rfl inT_X9 (by decide) k_334 rfl rfl rfl rfl ?_
            refine g_iload_n C dX9_appeal_151 2 rfl rfl ?_
            refine g_iload_n C dX9_appeal_152 3 rfl rfl ?_
            refine g_iconst (v := (0 : Int32)) C dX9_appeal_153 (by decide) ?_
            obtain ⟨m_14, hk_14, h⟩ := b1_some h
            refine g_vV (As := [.int v1_9, .int v2_9, .int (0 : Int32)]) (a := 3) (ci := 7) C dX9_appeal_154 mf_X7_put k_401 rfl (by decide) ⟨by decide, by decide⟩ rfl rfl (Nat.le_of_ble_eq_true rfl) (by decide) rfl (c_X7_put N (gl Γ) C.2.2.2.2 (gw Γ) v1_9 v2_9 (0 : Int32) m_13 _ hk_14) ?_
            refine g_aload_n C dX9_appeal_157 1 rfl rfl ?_
            refine g_getT (b := 3) (ci := 9) (j := 1) C dX9_appeal_158 rfl (by decide) rfl inT_X9 (by decide) k_334 rfl rfl rfl rfl ?_
            refine g_iload_n C dX9_appeal_161 2 rfl rfl ?_
            refine g_iload_n C dX9_appeal_162 3 rfl rfl ?_
            obtain ⟨m_15, hk_15, h⟩ := b1_some h
            refine g_vV (As := [.int v1_9, .int v2_9]) (a := 3) (ci := 7) C dX9_appeal_163 mf_X7_addConflict k_382 rfl (by decide) ⟨by decide, by decide⟩ rfl rfl (Nat.le_of_ble_eq_true rfl) (by decide) rfl (c_X7_addConflict N (gl Γ) C.2.2.2.2 (gw Γ) v1_9 v2_9 m_14 _ hk_15) ?_
            refine g_aload_n C dX9_appeal_166 1 rfl rfl ?_
            refine g_getT (b := 3) (ci := 9) (j := 1) C dX9_appeal_167 rfl (by decide) rfl inT_X9 (by decide) k_334 rfl rfl rfl rfl ?_
            refine g_iload_n C dX9_appeal_170 3 rfl rfl ?_
            obtain ⟨m_16, hk_16, h⟩ := b1_some h
            refine g_vV (As := [.int v2_9]) (a := 3) (ci := 7) C dX9_appeal_171 mf_X7_grantAppeal k_496 rfl (by decide) ⟨by decide, by decide⟩ rfl rfl (Nat.le_of_ble_eq_true rfl) (by decide) rfl (c_X7_grantAppeal N (gl Γ) C.2.2.2.2 (gw Γ) v2_9 m_15 _ hk_16) ?_
            refine g_iconst (v := (1 : Int32)) C dX9_appeal_174 (by decide) ?_
            obtain rfl := Option.some.inj h
            exact (hE).1 _ rfl 3 (by decide) 175 _ (show isB (1 : Int32) = true by decide) dX9_appeal_175
          · replace h := it_f c_17 h
            refine g_iconst (v := (0 : Int32)) C dX9_appeal_134 (by decide) ?_
            obtain rfl := Option.some.inj h
            exact (hE).1 _ rfl 3 (by decide) 135 _ (show isB (0 : Int32) = true by decide) dX9_appeal_135
        · replace h := it_f c_18 h
          refine g_sub [] rfl ?_
          exact t_X9_appeal_90 N Γ C b hE  m_10 h
    · exact g_xvV_th (mc' := 1) (As := [.int v1, .int v2]) (a := 0) (ci := 9) C dX9_appeal_9 mf_X9_checkScore k_430 rfl (by decide) ⟨by decide, by decide⟩ rfl rfl (Nat.le_of_ble_eq_true rfl) (by decide) rfl (c_X9_checkScore N (gl Γ) C.2.2.2.2 (gw Γ) v1 v2 m_1 _ hk_2) (hE.2 _ rfl)
  · exact g_xvV_th (mc' := 2) (As := [.int v1, .int v2]) (a := 0) (ci := 9) C dX9_appeal_3 mf_X9_checkPair k_372 rfl (by decide) ⟨by decide, by decide⟩ rfl rfl (Nat.le_of_ble_eq_true rfl) (by decide) rfl (c_X9_checkPair N (gl Γ) C.2.2.2.2 (gw Γ) v1 v2 m _ hk_1) (hE.2 _ rfl)
theorem c_X9_appeal (N : Nat) (l : Launch) (hst : l.stackTraces = false) (w : Om) (v1 : Int32) (v2 : Int32) (m : Mem) (o : (Int32 ⊕ Nat) × Mem) (h : f_X9_appeal N v1 v2 m = some o) : XI l yX9_appeal cX9_appeal 6 (some .boolean) 8 133 4 w [.ref (oa w 0), .int v1, .int v2] m o := XZ_of hst (by decide +kernel) RX9 rfl (Nat.le_of_ble_eq_true rfl) (fun Γ hw hl C hE => by
  subst hw; subst hl
  exact t_X9_appeal N Γ C v1 v2 m o h hE)
set_option maxRecDepth 100000 in
set_option maxHeartbeats 4000000 in
theorem t_X9_undo (N : Nat) (Γ : Gc) (C : Cx Γ cX9_undo 1 RX9 (rmK 6 102 1))  (m : Mem) (b : (Int32 ⊕ Nat) × Mem) (h : f_X9_undo N  m = some b) (hE : EI Γ 1 cX9_undo 1 b) : G Γ 1 0 m 0 [(0, .ref (oa (gw Γ) 0))] [] := by
  unfold f_X9_undo at h
  refine g_aload_n C dX9_undo_0 0 rfl rfl ?_
  refine g_getT (b := 6) (ci := 9) (j := 2) C dX9_undo_1 rfl (by decide) rfl inT_X9 (by decide) k_339 rfl rfl rfl rfl ?_
  refine g_getI (ci := 2) (j := 2) C dX9_undo_4 rfl (by decide) rfl inT_X2 (by decide) k_500 rfl rfl ?_
  refine g_if_ne (tgt := 21) C dX9_undo_7 (by decide) (fun c_2 => ?_) (fun c_2 => ?_)
  · replace h := it_f c_2 h
    refine g_aload_n C dX9_undo_21 0 rfl rfl ?_
    refine g_getT (b := 6) (ci := 9) (j := 2) C dX9_undo_22 rfl (by decide) rfl inT_X9 (by decide) k_339 rfl rfl rfl rfl ?_
    refine g_aload_n C dX9_undo_25 0 rfl rfl ?_
    refine g_getT (b := 3) (ci := 9) (j := 1) C dX9_undo_26 rfl (by decide) rfl inT_X9 (by decide) k_334 rfl rfl rfl rfl ?_
    obtain ⟨m_1, hk_1, h⟩ := b1_some h
    refine g_vV (As := [.ref (oa (gw Γ) 3)]) (a := 6) (ci := 2) C dX9_undo_29 mf_X2_restore k_501 rfl (by decide) ⟨by decide, by decide⟩ rfl rfl (Nat.le_of_ble_eq_true rfl) (by decide) rfl (c_X2_restore N (gl Γ) C.2.2.2.2 (gw Γ)  m _ hk_1) ?_
    refine g_aload_n C dX9_undo_32 0 rfl rfl ?_
    refine g_getT (b := 6) (ci := 9) (j := 2) C dX9_undo_33 rfl (by decide) rfl inT_X9 (by decide) k_339 rfl rfl rfl rfl ?_
    refine g_getI (ci := 2) (j := 2) C dX9_undo_36 rfl (by decide) rfl inT_X2 (by decide) k_500 rfl rfl ?_
    obtain rfl := Option.some.inj h
    exact (hE).1 _ rfl 0 (by decide) 39 _ dX9_undo_39
  · replace h := it_t c_2 h
    obtain rfl := Option.some.inj h
    exact g_throwW (n := 33) C tf_0 dX9_undo_10 dX9_undo_13 dX9_undo_14 dX9_undo_17 dX9_undo_20 (List.mem_of_getElem? (i := 33) rfl) (by decide) (Nat.le_of_ble_eq_true rfl) (by decide) ((hE).2 0 rfl)
theorem c_X9_undo (N : Nat) (l : Launch) (hst : l.stackTraces = false) (w : Om)  (m : Mem) (o : (Int32 ⊕ Nat) × Mem) (h : f_X9_undo N  m = some o) : XI l yX9_undo cX9_undo 1 (some .int) 6 102 1 w [.ref (oa w 0)] m o := XI_of hst (by decide +kernel) RX9 rfl (Nat.le_of_ble_eq_true rfl) (fun Γ hw hl C hE => by
  subst hw; subst hl
  exact t_X9_undo N Γ C  m o h hE)
set_option maxRecDepth 100000 in
set_option maxHeartbeats 4000000 in
theorem t_X10_thrown (N : Nat) (Γ : Gc) (C : Cx Γ cX10_thrown 1 RX10 (rmK 0 0 0))  (m : Mem) (b : Int32 × Mem) (h : f_X10_thrown N  m = some b) (hE : EIn Γ 1 cX10_thrown b) : G Γ 1 0 m 0 [(0, .ref (oa (gw Γ) 95))] [] := by
  unfold f_X10_thrown at h
  refine g_aload_n C dX10_thrown_0 0 rfl rfl ?_
  refine g_getI (ci := 10) (j := 0) C dX10_thrown_1 rfl (by decide) rfl inT_X10 (by decide) k_505 rfl rfl ?_
  obtain rfl := Option.some.inj h
  exact hE 4 _ dX10_thrown_4
theorem c_X10_thrown (N : Nat) (l : Launch) (hst : l.stackTraces = false) (w : Om)  (m : Mem) (o : Int32 × Mem) (h : f_X10_thrown N  m = some o) : KI l yX10_thrown cX10_thrown 1 (some .int) 0 0 w [.ref (oa w 95)] m o.1 o.2 := KI_of hst (by decide +kernel) RX10 rfl (Nat.le_of_ble_eq_true rfl) (fun Γ hw hl C hE => by
  subst hw; subst hl
  exact t_X10_thrown N Γ C  m o h hE)
set_option maxRecDepth 100000 in
set_option maxHeartbeats 4000000 in
theorem t_X10_in_14 (N : Nat) (Γ : Gc) (C : Cx Γ cX10_in 3 RX10 (rmK 0 0 0)) (b : Int32 × Mem) (hE : EZn Γ 3 cX10_in b)  (m : Mem) (h : B_X10_in_14 N  m = some b) : G Γ 3 0 m 14 [] [] := by
  unfold B_X10_in_14 at h
  refine g_iconst (v := (0 : Int32)) C dX10_in_14 (by decide) ?_
  obtain rfl := Option.some.inj h
  exact hE 15 _ (show isB (0 : Int32) = true by decide) dX10_in_15
set_option maxRecDepth 100000 in
set_option maxHeartbeats 4000000 in
theorem t_X10_in (N : Nat) (Γ : Gc) (C : Cx Γ cX10_in 3 RX10 (rmK 0 0 0)) (v0 : Int32) (v1 : Int32) (v2 : Int32) (m : Mem) (b : Int32 × Mem) (h : f_X10_in N v0 v1 v2 m = some b) (hE : EZn Γ 3 cX10_in b) : G Γ 3 0 m 0 [(0, .int v0), (1, .int v1), (2, .int v2)] [] := by
  unfold f_X10_in at h
  refine g_iload_n C dX10_in_0 0 rfl rfl ?_
  refine g_iload_n C dX10_in_1 1 rfl rfl ?_
  refine g_icmp_lt (tgt := 14) C dX10_in_2 (by decide) (fun c_2 => ?_) (fun c_2 => ?_)
  · replace h := it_t c_2 h
    refine g_sub [] rfl ?_
    exact t_X10_in_14 N Γ C b hE  m h
  · replace h := it_f c_2 h
    refine g_iload_n C dX10_in_5 0 rfl rfl ?_
    refine g_iload_n C dX10_in_6 2 rfl rfl ?_
    refine g_icmp_gt (tgt := 14) C dX10_in_7 (by decide) (fun c_1 => ?_) (fun c_1 => ?_)
    · replace h := it_t c_1 h
      refine g_sub [] rfl ?_
      exact t_X10_in_14 N Γ C b hE  m h
    · replace h := it_f c_1 h
      refine g_iconst (v := (1 : Int32)) C dX10_in_10 (by decide) ?_
      refine g_goto (tgt := 15) C dX10_in_11 (by decide) ?_
      obtain rfl := Option.some.inj h
      exact hE 15 _ (show isB (1 : Int32) = true by decide) dX10_in_15
theorem c_X10_in (N : Nat) (l : Launch) (hst : l.stackTraces = false) (w : Om) (v0 : Int32) (v1 : Int32) (v2 : Int32) (m : Mem) (o : Int32 × Mem) (h : f_X10_in N v0 v1 v2 m = some o) : KI l yX10_in cX10_in 3 (some .boolean) 0 0 w [.int v0, .int v1, .int v2] m o.1 o.2 := KZ_of hst (by decide +kernel) RX10 rfl (Nat.le_of_ble_eq_true rfl) (fun Γ hw hl C hE => by
  subst hw; subst hl
  exact t_X10_in N Γ C v0 v1 v2 m o h hE)
set_option maxRecDepth 100000 in
set_option maxHeartbeats 4000000 in
theorem t_X10_has (N : Nat) (Γ : Gc) (C : Cx Γ cX10_has 2 RX10 (rmK 0 0 0)) (v0 : Int32) (v1 : Int32) (m : Mem) (b : Int32 × Mem) (h : f_X10_has N v0 v1 m = some b) (hE : EZn Γ 2 cX10_has b) : G Γ 2 0 m 0 [(0, .int v0), (1, .int v1)] [] := by
  unfold f_X10_has at h
  refine g_iload_n C dX10_has_0 0 rfl rfl ?_
  refine g_iload_n C dX10_has_1 1 rfl rfl ?_
  refine g_ishr C dX10_has_2 ?_
  refine g_iconst (v := (1 : Int32)) C dX10_has_3 (by decide) ?_
  refine g_iand C dX10_has_4 ?_
  refine g_iconst (v := (1 : Int32)) C dX10_has_5 (by decide) ?_
  refine g_icmp_ne (tgt := 13) C dX10_has_6 (by decide) (fun c_1 => ?_) (fun c_1 => ?_)
  · replace h := it_f c_1 h
    refine g_iconst (v := (0 : Int32)) C dX10_has_13 (by decide) ?_
    obtain rfl := Option.some.inj h
    exact hE 14 _ (show isB (0 : Int32) = true by decide) dX10_has_14
  · replace h := it_t c_1 h
    refine g_iconst (v := (1 : Int32)) C dX10_has_9 (by decide) ?_
    refine g_goto (tgt := 14) C dX10_has_10 (by decide) ?_
    obtain rfl := Option.some.inj h
    exact hE 14 _ (show isB (1 : Int32) = true by decide) dX10_has_14
theorem c_X10_has (N : Nat) (l : Launch) (hst : l.stackTraces = false) (w : Om) (v0 : Int32) (v1 : Int32) (m : Mem) (o : Int32 × Mem) (h : f_X10_has N v0 v1 m = some o) : KI l yX10_has cX10_has 2 (some .boolean) 0 0 w [.int v0, .int v1] m o.1 o.2 := KZ_of hst (by decide +kernel) RX10 rfl (Nat.le_of_ble_eq_true rfl) (fun Γ hw hl C hE => by
  subst hw; subst hl
  exact t_X10_has N Γ C v0 v1 m o h hE)
def Ex_X10_bits_4 (Γ : Gc) (cs : Nat) (b : Int32 × Mem) : Prop := (∀ (y1 : Int32) (m' : Mem), b = (y1, m') → G Γ 3 cs m' 20 [(1, .int y1)] [])
set_option maxRecDepth 100000 in
set_option maxHeartbeats 4000000 in
theorem t_X10_bits_4 (N : Nat) (Γ : Gc) (C : Cx Γ cX10_bits 3 RX10 (rmK 0 0 0)) (rc : Int32 → Int32 → Mem → Option (Int32 × Mem)) (b : Int32 × Mem) (hE : Ex_X10_bits_4 Γ 0 b) (hrec : ∀ (v1 : Int32) (v2 : Int32) (m : Mem) (b : Int32 × Mem), rc v1 v2 m = some b → Ex_X10_bits_4 Γ 0 b → G Γ 3 0 m 4 [(1, .int v1), (2, .int v2)] []) (v1 : Int32) (v2 : Int32) (m : Mem) (h : T_X10_bits_4 N rc v1 v2 m = some b) : G Γ 3 0 m 4 [(1, .int v1), (2, .int v2)] [] := by
  unfold T_X10_bits_4 at h
  refine g_iload_n C dX10_bits_4 1 rfl rfl ?_
  refine g_if_eq (tgt := 20) C dX10_bits_5 (by decide) (fun c_1 => ?_) (fun c_1 => ?_)
  · replace h := it_t c_1 h
    obtain rfl := Option.some.inj h
    refine g_sub [0] rfl ?_
    exact hE _ _ rfl
  · replace h := it_f c_1 h
    refine g_iinc (q := 0) (v := v1 + (1 : Int32)) (lv' := [(1, .int (v1 + (1 : Int32))), (2, .int v2)]) C dX10_bits_8 rfl rfl (by decide) rfl ?_
    refine g_iload_n C dX10_bits_11 1 rfl rfl ?_
    refine g_iload_n C dX10_bits_12 1 rfl rfl ?_
    refine g_iconst (v := (1 : Int32)) C dX10_bits_13 (by decide) ?_
    refine g_isub C dX10_bits_14 ?_
    refine g_iand C dX10_bits_15 ?_
    refine g_istore_n (lv' := [(2, .int (v2 &&& (v2 - (1 : Int32)))), (1, .int (v1 + (1 : Int32)))]) C dX10_bits_16 rfl (by decide) rfl ?_
    refine g_goto (tgt := 4) C dX10_bits_17 (by decide) ?_
    refine g_sub [1, 0] rfl ?_
    exact hrec (v1 + (1 : Int32)) (v2 &&& (v2 - (1 : Int32))) m b h hE
theorem lt_X10_bits_4 (N : Nat) (Γ : Gc) (C : Cx Γ cX10_bits 3 RX10 (rmK 0 0 0)) : ∀ (n : Nat) (v1 : Int32) (v2 : Int32) (m : Mem) (b : Int32 × Mem), L_X10_bits_4 N n v1 v2 m = some b → Ex_X10_bits_4 Γ 0 b → G Γ 3 0 m 4 [(1, .int v1), (2, .int v2)] [] := by
  intro n
  induction n with
  | zero =>
    intro v1 v2 m b h
    have h9 : (none : Option (Int32 × Mem)) = some b := h
    cases h9
  | succ n ih => intro v1 v2 m b h hE; exact t_X10_bits_4 N Γ C (L_X10_bits_4 N n) b hE ih v1 v2 m h
set_option maxRecDepth 100000 in
set_option maxHeartbeats 4000000 in
theorem t_X10_bits (N : Nat) (Γ : Gc) (C : Cx Γ cX10_bits 3 RX10 (rmK 0 0 0)) (v0 : Int32) (m : Mem) (b : Int32 × Mem) (h : f_X10_bits N v0 m = some b) (hE : EIn Γ 3 cX10_bits b) : G Γ 3 0 m 0 [(0, .int v0)] [] := by
  unfold f_X10_bits at h
  refine g_iconst (v := (0 : Int32)) C dX10_bits_0 (by decide) ?_
  refine g_istore_n (lv' := [(1, .int (0 : Int32)), (0, .int v0)]) C dX10_bits_1 rfl (by decide) rfl ?_
  refine g_iload_n C dX10_bits_2 1 rfl rfl ?_
  refine g_istore_n (lv' := [(2, .int v0), (1, .int (0 : Int32)), (0, .int v0)]) C dX10_bits_3 rfl (by decide) rfl ?_
  obtain ⟨v1_2, m_2, hx, h⟩ := l2_some h
  refine g_sub [1, 0] rfl ?_
  refine lt_X10_bits_4 N Γ C N (0 : Int32) v0 m _ hx ?_
  intro z1 m9 e9
  cases e9
  refine g_iload_n C dX10_bits_20 0 rfl rfl ?_
  obtain rfl := Option.some.inj h
  exact hE 21 _ dX10_bits_21
theorem c_X10_bits (N : Nat) (l : Launch) (hst : l.stackTraces = false) (w : Om) (v0 : Int32) (m : Mem) (o : Int32 × Mem) (h : f_X10_bits N v0 m = some o) : KI l yX10_bits cX10_bits 3 (some .int) 0 0 w [.int v0] m o.1 o.2 := KI_of hst (by decide +kernel) RX10 rfl (Nat.le_of_ble_eq_true rfl) (fun Γ hw hl C hE => by
  subst hw; subst hl
  exact t_X10_bits N Γ C v0 m o h hE)
set_option maxRecDepth 100000 in
set_option maxHeartbeats 4000000 in
theorem t_X10_fails (N : Nat) (Γ : Gc) (C : Cx Γ cX10_fails 2 RX10 (rmK 0 0 0)) (v1 : Int32) (m : Mem) (b : Int32 × Mem) (h : f_X10_fails N v1 m = some b) (hE : EIn Γ 2 cX10_fails b) : G Γ 2 0 m 0 [(0, .ref (oa (gw Γ) 95)), (1, .int v1)] [] := by
  unfold f_X10_fails at h
  refine g_aload_n C dX10_fails_0 0 rfl rfl ?_
  refine g_iload_n C dX10_fails_1 1 rfl rfl ?_
  obtain ⟨m_1, e_1, h⟩ := wr_some h
  refine g_putI (ci := 10) (j := 0) C dX10_fails_2 rfl (by decide) rfl inT_X10 (by decide) k_505 tyX10 tyX10_ok nmX10 rfl rfl rfl rfl rfl (G_m e_1 ?_)
  refine g_iconst (v := (0 : Int32)) C dX10_fails_5 (by decide) ?_
  obtain rfl := Option.some.inj h
  exact hE 6 _ dX10_fails_6
theorem c_X10_fails (N : Nat) (l : Launch) (hst : l.stackTraces = false) (w : Om) (v1 : Int32) (m : Mem) (o : Int32 × Mem) (h : f_X10_fails N v1 m = some o) : KI l yX10_fails cX10_fails 2 (some .int) 0 0 w [.ref (oa w 95), .int v1] m o.1 o.2 := KI_of hst (by decide +kernel) RX10 rfl (Nat.le_of_ble_eq_true rfl) (fun Γ hw hl C hE => by
  subst hw; subst hl
  exact t_X10_fails N Γ C v1 m o h hE)
set_option maxRecDepth 100000 in
set_option maxHeartbeats 4000000 in
theorem t_X10_isPanel (N : Nat) (Γ : Gc) (C : Cx Γ cX10_isPanel 2 RX10 (rmK 1 22 0)) (v1 : Int32) (m : Mem) (b : Int32 × Mem) (h : f_X10_isPanel N v1 m = some b) (hE : EZn Γ 2 cX10_isPanel b) : G Γ 2 0 m 0 [(0, .ref (oa (gw Γ) 95)), (1, .int v1)] [] := by
  unfold f_X10_isPanel at h
  refine g_iload_n C dX10_isPanel_0 1 rfl rfl ?_
  refine g_iconst (v := (0 : Int32)) C dX10_isPanel_1 (by decide) ?_
  refine g_aload_n C dX10_isPanel_2 0 rfl rfl ?_
  refine g_getT (b := 96) (ci := 10) (j := 1) C dX10_isPanel_3 rfl (by decide) rfl inT_X10 (by decide) k_506 rfl rfl rfl rfl ?_
  refine g_iconst (v := (0 : Int32)) C dX10_isPanel_6 (by decide) ?_
  refine g_iald' (j := 0) C dX10_isPanel_7 (okA_of rfl rfl (by decide)) (by decide) ?_
  refine g_iconst (v := (1 : Int32)) C dX10_isPanel_8 (by decide) ?_
  refine g_isub C dX10_isPanel_9 ?_
  obtain ⟨r_1, m_1, hk_1, h⟩ := b2_some h
  refine g_sI (As := [.int v1, .int (0 : Int32), .int ((gI m 96 0) - (1 : Int32))]) C dX10_isPanel_10 mf_X10_in k_507 ⟨by decide, by decide⟩ rfl rfl (Nat.le_of_ble_eq_true rfl) (by decide) (c_X10_in N (gl Γ) C.2.2.2.2 (gw Γ) v1 (0 : Int32) ((gI m 96 0) - (1 : Int32)) m _ hk_1) ?_
  obtain ⟨g_2, h⟩ := gd_some h
  obtain rfl := Option.some.inj h
  exact hE 13 _ g_2 dX10_isPanel_13
theorem c_X10_isPanel (N : Nat) (l : Launch) (hst : l.stackTraces = false) (w : Om) (v1 : Int32) (m : Mem) (o : Int32 × Mem) (h : f_X10_isPanel N v1 m = some o) : KI l yX10_isPanel cX10_isPanel 2 (some .boolean) 1 22 w [.ref (oa w 95), .int v1] m o.1 o.2 := KZ_of hst (by decide +kernel) RX10 rfl (Nat.le_of_ble_eq_true rfl) (fun Γ hw hl C hE => by
  subst hw; subst hl
  exact t_X10_isPanel N Γ C v1 m o h hE)
set_option maxRecDepth 100000 in
set_option maxHeartbeats 4000000 in
theorem t_X10_isReviewer (N : Nat) (Γ : Gc) (C : Cx Γ cX10_isReviewer 2 RX10 (rmK 1 22 0)) (v1 : Int32) (m : Mem) (b : Int32 × Mem) (h : f_X10_isReviewer N v1 m = some b) (hE : EZn Γ 2 cX10_isReviewer b) : G Γ 2 0 m 0 [(0, .ref (oa (gw Γ) 95)), (1, .int v1)] [] := by
  unfold f_X10_isReviewer at h
  refine g_iload_n C dX10_isReviewer_0 1 rfl rfl ?_
  refine g_iconst (v := (0 : Int32)) C dX10_isReviewer_1 (by decide) ?_
  refine g_aload_n C dX10_isReviewer_2 0 rfl rfl ?_
  refine g_getT (b := 96) (ci := 10) (j := 1) C dX10_isReviewer_3 rfl (by decide) rfl inT_X10 (by decide) k_506 rfl rfl rfl rfl ?_
  refine g_iconst (v := (1 : Int32)) C dX10_isReviewer_6 (by decide) ?_
  refine g_iald' (j := 1) C dX10_isReviewer_7 (okA_of rfl rfl (by decide)) (by decide) ?_
  refine g_iconst (v := (1 : Int32)) C dX10_isReviewer_8 (by decide) ?_
  refine g_isub C dX10_isReviewer_9 ?_
  obtain ⟨r_1, m_1, hk_1, h⟩ := b2_some h
  refine g_sI (As := [.int v1, .int (0 : Int32), .int ((gI m 96 1) - (1 : Int32))]) C dX10_isReviewer_10 mf_X10_in k_507 ⟨by decide, by decide⟩ rfl rfl (Nat.le_of_ble_eq_true rfl) (by decide) (c_X10_in N (gl Γ) C.2.2.2.2 (gw Γ) v1 (0 : Int32) ((gI m 96 1) - (1 : Int32)) m _ hk_1) ?_
  obtain ⟨g_2, h⟩ := gd_some h
  obtain rfl := Option.some.inj h
  exact hE 13 _ g_2 dX10_isReviewer_13
theorem c_X10_isReviewer (N : Nat) (l : Launch) (hst : l.stackTraces = false) (w : Om) (v1 : Int32) (m : Mem) (o : Int32 × Mem) (h : f_X10_isReviewer N v1 m = some o) : KI l yX10_isReviewer cX10_isReviewer 2 (some .boolean) 1 22 w [.ref (oa w 95), .int v1] m o.1 o.2 := KZ_of hst (by decide +kernel) RX10 rfl (Nat.le_of_ble_eq_true rfl) (fun Γ hw hl C hE => by
  subst hw; subst hl
  exact t_X10_isReviewer N Γ C v1 m o h hE)
set_option maxRecDepth 100000 in
set_option maxHeartbeats 4000000 in
theorem t_X10_isProposal (N : Nat) (Γ : Gc) (C : Cx Γ cX10_isProposal 2 RX10 (rmK 1 22 0)) (v1 : Int32) (m : Mem) (b : Int32 × Mem) (h : f_X10_isProposal N v1 m = some b) (hE : EZn Γ 2 cX10_isProposal b) : G Γ 2 0 m 0 [(0, .ref (oa (gw Γ) 95)), (1, .int v1)] [] := by
  unfold f_X10_isProposal at h
  refine g_iload_n C dX10_isProposal_0 1 rfl rfl ?_
  refine g_iconst (v := (0 : Int32)) C dX10_isProposal_1 (by decide) ?_
  refine g_aload_n C dX10_isProposal_2 0 rfl rfl ?_
  refine g_getT (b := 96) (ci := 10) (j := 1) C dX10_isProposal_3 rfl (by decide) rfl inT_X10 (by decide) k_506 rfl rfl rfl rfl ?_
  refine g_iconst (v := (2 : Int32)) C dX10_isProposal_6 (by decide) ?_
  refine g_iald' (j := 2) C dX10_isProposal_7 (okA_of rfl rfl (by decide)) (by decide) ?_
  refine g_iconst (v := (1 : Int32)) C dX10_isProposal_8 (by decide) ?_
  refine g_isub C dX10_isProposal_9 ?_
  obtain ⟨r_1, m_1, hk_1, h⟩ := b2_some h
  refine g_sI (As := [.int v1, .int (0 : Int32), .int ((gI m 96 2) - (1 : Int32))]) C dX10_isProposal_10 mf_X10_in k_507 ⟨by decide, by decide⟩ rfl rfl (Nat.le_of_ble_eq_true rfl) (by decide) (c_X10_in N (gl Γ) C.2.2.2.2 (gw Γ) v1 (0 : Int32) ((gI m 96 2) - (1 : Int32)) m _ hk_1) ?_
  obtain ⟨g_2, h⟩ := gd_some h
  obtain rfl := Option.some.inj h
  exact hE 13 _ g_2 dX10_isProposal_13
theorem c_X10_isProposal (N : Nat) (l : Launch) (hst : l.stackTraces = false) (w : Om) (v1 : Int32) (m : Mem) (o : Int32 × Mem) (h : f_X10_isProposal N v1 m = some o) : KI l yX10_isProposal cX10_isProposal 2 (some .boolean) 1 22 w [.ref (oa w 95), .int v1] m o.1 o.2 := KZ_of hst (by decide +kernel) RX10 rfl (Nat.le_of_ble_eq_true rfl) (fun Γ hw hl C hE => by
  subst hw; subst hl
  exact t_X10_isProposal N Γ C v1 m o h hE)
set_option maxRecDepth 100000 in
set_option maxHeartbeats 4000000 in
theorem t_X10_reviewer (N : Nat) (Γ : Gc) (C : Cx Γ cX10_reviewer 3 RX10 (rmK 0 0 0)) (v1 : Int32) (v2 : Int32) (m : Mem) (b : Int32 × Mem) (h : f_X10_reviewer N v1 v2 m = some b) (hE : EIn Γ 3 cX10_reviewer b) : G Γ 3 0 m 0 [(0, .ref (oa (gw Γ) 95)), (1, .int v1), (2, .int v2)] [] := by
  unfold f_X10_reviewer at h
  refine g_aload_n C dX10_reviewer_0 0 rfl rfl ?_
  refine g_getT (b := 96) (ci := 10) (j := 1) C dX10_reviewer_1 rfl (by decide) rfl inT_X10 (by decide) k_506 rfl rfl rfl rfl ?_
  refine g_bipush (v := (11 : Int32)) C dX10_reviewer_4 (by decide) ?_
  refine g_iconst (v := (4 : Int32)) C dX10_reviewer_6 (by decide) ?_
  refine g_iload_n C dX10_reviewer_7 1 rfl rfl ?_
  refine g_imul C dX10_reviewer_8 ?_
  refine g_iadd C dX10_reviewer_9 ?_
  refine g_iload_n C dX10_reviewer_10 2 rfl rfl ?_
  refine g_iadd C dX10_reviewer_11 ?_
  obtain ⟨g_1, h⟩ := gd_some h
  refine g_iald C dX10_reviewer_12 (okA_of rfl rfl g_1) ?_
  obtain rfl := Option.some.inj h
  exact hE 13 _ dX10_reviewer_13
theorem c_X10_reviewer (N : Nat) (l : Launch) (hst : l.stackTraces = false) (w : Om) (v1 : Int32) (v2 : Int32) (m : Mem) (o : Int32 × Mem) (h : f_X10_reviewer N v1 v2 m = some o) : KI l yX10_reviewer cX10_reviewer 3 (some .int) 0 0 w [.ref (oa w 95), .int v1, .int v2] m o.1 o.2 := KI_of hst (by decide +kernel) RX10 rfl (Nat.le_of_ble_eq_true rfl) (fun Γ hw hl C hE => by
  subst hw; subst hl
  exact t_X10_reviewer N Γ C v1 v2 m o h hE)
set_option maxRecDepth 100000 in
set_option maxHeartbeats 4000000 in
theorem t_X10_proposal (N : Nat) (Γ : Gc) (C : Cx Γ cX10_proposal 3 RX10 (rmK 0 0 0)) (v1 : Int32) (v2 : Int32) (m : Mem) (b : Int32 × Mem) (h : f_X10_proposal N v1 v2 m = some b) (hE : EIn Γ 3 cX10_proposal b) : G Γ 3 0 m 0 [(0, .ref (oa (gw Γ) 95)), (1, .int v1), (2, .int v2)] [] := by
  unfold f_X10_proposal at h
  refine g_aload_n C dX10_proposal_0 0 rfl rfl ?_
  refine g_getT (b := 96) (ci := 10) (j := 1) C dX10_proposal_1 rfl (by decide) rfl inT_X10 (by decide) k_506 rfl rfl rfl rfl ?_
  refine g_bipush (v := (59 : Int32)) C dX10_proposal_4 (by decide) ?_
  refine g_iconst (v := (5 : Int32)) C dX10_proposal_6 (by decide) ?_
  refine g_iload_n C dX10_proposal_7 1 rfl rfl ?_
  refine g_imul C dX10_proposal_8 ?_
  refine g_iadd C dX10_proposal_9 ?_
  refine g_iload_n C dX10_proposal_10 2 rfl rfl ?_
  refine g_iadd C dX10_proposal_11 ?_
  obtain ⟨g_1, h⟩ := gd_some h
  refine g_iald C dX10_proposal_12 (okA_of rfl rfl g_1) ?_
  obtain rfl := Option.some.inj h
  exact hE 13 _ dX10_proposal_13
theorem c_X10_proposal (N : Nat) (l : Launch) (hst : l.stackTraces = false) (w : Om) (v1 : Int32) (v2 : Int32) (m : Mem) (o : Int32 × Mem) (h : f_X10_proposal N v1 v2 m = some o) : KI l yX10_proposal cX10_proposal 3 (some .int) 0 0 w [.ref (oa w 95), .int v1, .int v2] m o.1 o.2 := KI_of hst (by decide +kernel) RX10 rfl (Nat.le_of_ble_eq_true rfl) (fun Γ hw hl C hE => by
  subst hw; subst hl
  exact t_X10_proposal N Γ C v1 v2 m o h hE)
def Ex_X10_four_3 (Γ : Gc) (cs : Nat) (b : Mem) : Prop := (∀  (m' : Mem), b = m' → G Γ 3 cs m' 39 [] [])
set_option maxRecDepth 100000 in
set_option maxHeartbeats 4000000 in
theorem t_X10_four_3 (N : Nat) (Γ : Gc) (C : Cx Γ cX10_four 3 RX10 (rmK 0 0 0)) (rc : Int32 → Int32 → Mem → Option (Mem)) (b : Mem) (hE : Ex_X10_four_3 Γ 0 b) (hrec : ∀ (v1 : Int32) (v2 : Int32) (m : Mem) (b : Mem), rc v1 v2 m = some b → Ex_X10_four_3 Γ 0 b → G Γ 3 0 m 3 [(0, .ref (oa (gw Γ) 95)), (1, .int v1), (2, .int v2)] []) (v1 : Int32) (v2 : Int32) (m : Mem) (h : T_X10_four_3 N rc v1 v2 m = some b) : G Γ 3 0 m 3 [(0, .ref (oa (gw Γ) 95)), (1, .int v1), (2, .int v2)] [] := by
  unfold T_X10_four_3 at h
  refine g_iload_n C dX10_four_3 2 rfl rfl ?_
  refine g_if_lt (tgt := 39) C dX10_four_4 (by decide) (fun c_4 => ?_) (fun c_4 => ?_)
  · replace h := it_t c_4 h
    obtain rfl := Option.some.inj h
    refine g_sub [] rfl ?_
    exact hE _ rfl
  · replace h := it_f c_4 h
    refine g_aload_n C dX10_four_7 0 rfl rfl ?_
    refine g_getT (b := 100) (ci := 10) (j := 6) C dX10_four_8 rfl (by decide) rfl inT_X10 (by decide) k_511 rfl rfl rfl rfl ?_
    refine g_aload_n C dX10_four_11 0 rfl rfl ?_
    refine g_getI (ci := 10) (j := 7) C dX10_four_12 rfl (by decide) rfl inT_X10 (by decide) k_512 rfl rfl ?_
    refine g_iload_n C dX10_four_15 1 rfl rfl ?_
    refine g_iload_n C dX10_four_16 2 rfl rfl ?_
    refine g_ishr C dX10_four_17 ?_
    refine g_sipush (v := (255 : Int32)) C dX10_four_18 (by decide) ?_
    refine g_iand C dX10_four_21 ?_
    obtain ⟨g_1, h⟩ := gd_some h
    obtain ⟨m_2, e_2, h⟩ := wr_some h
    refine g_iast C dX10_four_22 (okA_of rfl rfl g_1) (G_m e_2 ?_)
    refine g_aload_n C dX10_four_23 0 rfl rfl ?_
    refine g_dup C dX10_four_24 rfl ?_
    refine g_getI (ci := 10) (j := 7) C dX10_four_25 rfl (by decide) rfl inT_X10 (by decide) k_512 rfl rfl ?_
    refine g_iconst (v := (1 : Int32)) C dX10_four_28 (by decide) ?_
    refine g_iadd C dX10_four_29 ?_
    obtain ⟨m_3, e_3, h⟩ := wr_some h
    refine g_putI (ci := 10) (j := 7) C dX10_four_30 rfl (by decide) rfl inT_X10 (by decide) k_512 tyX10 tyX10_ok nmX10 rfl rfl rfl rfl rfl (G_m e_3 ?_)
    refine g_iinc (q := 2) (v := v2 + (-8 : Int32)) (lv' := [(2, .int (v2 + (-8 : Int32))), (0, .ref (oa (gw Γ) 95)), (1, .int v1)]) C dX10_four_33 rfl rfl (by decide) rfl ?_
    refine g_goto (tgt := 3) C dX10_four_36 (by decide) ?_
    refine g_sub [1, 2, 0] rfl ?_
    exact hrec v1 (v2 + (-8 : Int32)) m_3 b h hE
theorem lt_X10_four_3 (N : Nat) (Γ : Gc) (C : Cx Γ cX10_four 3 RX10 (rmK 0 0 0)) : ∀ (n : Nat) (v1 : Int32) (v2 : Int32) (m : Mem) (b : Mem), L_X10_four_3 N n v1 v2 m = some b → Ex_X10_four_3 Γ 0 b → G Γ 3 0 m 3 [(0, .ref (oa (gw Γ) 95)), (1, .int v1), (2, .int v2)] [] := by
  intro n
  induction n with
  | zero =>
    intro v1 v2 m b h
    have h9 : (none : Option (Mem)) = some b := h
    cases h9
  | succ n ih => intro v1 v2 m b h hE; exact t_X10_four_3 N Γ C (L_X10_four_3 N n) b hE ih v1 v2 m h
set_option maxRecDepth 100000 in
set_option maxHeartbeats 4000000 in
theorem t_X10_four (N : Nat) (Γ : Gc) (C : Cx Γ cX10_four 3 RX10 (rmK 0 0 0)) (v1 : Int32) (m : Mem) (b : Mem) (h : f_X10_four N v1 m = some b) (hE : EVn Γ 3 cX10_four b) : G Γ 3 0 m 0 [(0, .ref (oa (gw Γ) 95)), (1, .int v1)] [] := by
  unfold f_X10_four at h
  refine g_bipush (v := (24 : Int32)) C dX10_four_0 (by decide) ?_
  refine g_istore_n (lv' := [(2, .int (24 : Int32)), (0, .ref (oa (gw Γ) 95)), (1, .int v1)]) C dX10_four_2 rfl (by decide) rfl ?_
  obtain ⟨m_5, hx, h⟩ := l1_some h
  refine g_sub [1, 2, 0] rfl ?_
  refine lt_X10_four_3 N Γ C N v1 (24 : Int32) m _ hx ?_
  intro  m9 e9
  cases e9
  obtain rfl := Option.some.inj h
  exact hE 39 _ dX10_four_39
theorem c_X10_four (N : Nat) (l : Launch) (hst : l.stackTraces = false) (w : Om) (v1 : Int32) (m : Mem) (o : Mem) (h : f_X10_four N v1 m = some o) : KV l yX10_four cX10_four 3 none 0 0 w [.ref (oa w 95), .int v1] m o := KV_of hst (by decide +kernel) RX10 rfl (Nat.le_of_ble_eq_true rfl) (fun Γ hw hl C hE => by
  subst hw; subst hl
  exact t_X10_four N Γ C v1 m o h hE)
set_option maxRecDepth 100000 in
set_option maxHeartbeats 4000000 in
theorem t_X10_append (N : Nat) (Γ : Gc) (C : Cx Γ cX10_append 6 RX10 (rmK 1 22 0)) (v1 : Int32) (v2 : Int32) (v3 : Int32) (v4 : Int32) (v5 : Int32) (m : Mem) (b : Int32 × Mem) (h : f_X10_append N v1 v2 v3 v4 v5 m = some b) (hE : EIn Γ 6 cX10_append b) : G Γ 6 0 m 0 [(0, .ref (oa (gw Γ) 95)), (1, .int v1), (2, .int v2), (3, .int v3), (4, .int v4), (5, .int v5)] [] := by
  unfold f_X10_append at h
  refine g_aload_n C dX10_append_0 0 rfl rfl ?_
  refine g_iconst (v := (0 : Int32)) C dX10_append_1 (by decide) ?_
  obtain ⟨m_1, e_1, h⟩ := wr_some h
  refine g_putI (ci := 10) (j := 0) C dX10_append_2 rfl (by decide) rfl inT_X10 (by decide) k_505 tyX10 tyX10_ok nmX10 rfl rfl rfl rfl rfl (G_m e_1 ?_)
  refine g_aload_n C dX10_append_5 0 rfl rfl ?_
  refine g_getI (ci := 10) (j := 7) C dX10_append_6 rfl (by decide) rfl inT_X10 (by decide) k_512 rfl rfl ?_
  refine g_bipush (v := (20 : Int32)) C dX10_append_9 (by decide) ?_
  refine g_iadd C dX10_append_11 ?_
  refine g_sipush (v := (800 : Int32)) C dX10_append_12 (by decide) ?_
  refine g_icmp_le (tgt := 24) C dX10_append_15 (by decide) (fun c_8 => ?_) (fun c_8 => ?_)
  · replace h := it_t c_8 h
    refine g_aload_n C dX10_append_24 0 rfl rfl ?_
    refine g_iload_n C dX10_append_25 1 rfl rfl ?_
    obtain ⟨m_2, hk_2, h⟩ := b1_some h
    refine g_vV (As := [.int v1]) (a := 95) (ci := 10) C dX10_append_26 mf_X10_four k_513 rfl (by decide) ⟨by decide, by decide⟩ rfl rfl (Nat.le_of_ble_eq_true rfl) (by decide) rfl (c_X10_four N (gl Γ) C.2.2.2.2 (gw Γ) v1 m_1 _ hk_2) ?_
    refine g_aload_n C dX10_append_29 0 rfl rfl ?_
    refine g_iload_n C dX10_append_30 2 rfl rfl ?_
    obtain ⟨m_3, hk_3, h⟩ := b1_some h
    refine g_vV (As := [.int v2]) (a := 95) (ci := 10) C dX10_append_31 mf_X10_four k_513 rfl (by decide) ⟨by decide, by decide⟩ rfl rfl (Nat.le_of_ble_eq_true rfl) (by decide) rfl (c_X10_four N (gl Γ) C.2.2.2.2 (gw Γ) v2 m_2 _ hk_3) ?_
    refine g_aload_n C dX10_append_34 0 rfl rfl ?_
    refine g_iload_n C dX10_append_35 3 rfl rfl ?_
    obtain ⟨m_4, hk_4, h⟩ := b1_some h
    refine g_vV (As := [.int v3]) (a := 95) (ci := 10) C dX10_append_36 mf_X10_four k_513 rfl (by decide) ⟨by decide, by decide⟩ rfl rfl (Nat.le_of_ble_eq_true rfl) (by decide) rfl (c_X10_four N (gl Γ) C.2.2.2.2 (gw Γ) v3 m_3 _ hk_4) ?_
    refine g_aload_n C dX10_append_39 0 rfl rfl ?_
    refine g_iload C dX10_append_40 4 rfl ?_
    obtain ⟨m_5, hk_5, h⟩ := b1_some h
    refine g_vV (As := [.int v4]) (a := 95) (ci := 10) C dX10_append_42 mf_X10_four k_513 rfl (by decide) ⟨by decide, by decide⟩ rfl rfl (Nat.le_of_ble_eq_true rfl) (by decide) rfl (c_X10_four N (gl Γ) C.2.2.2.2 (gw Γ) v4 m_4 _ hk_5) ?_
    refine g_aload_n C dX10_append_45 0 rfl rfl ?_
    refine g_iload C dX10_append_46 5 rfl ?_
    obtain ⟨m_6, hk_6, h⟩ := b1_some h
    refine g_vV (As := [.int v5]) (a := 95) (ci := 10) C dX10_append_48 mf_X10_four k_513 rfl (by decide) ⟨by decide, by decide⟩ rfl rfl (Nat.le_of_ble_eq_true rfl) (by decide) rfl (c_X10_four N (gl Γ) C.2.2.2.2 (gw Γ) v5 m_5 _ hk_6) ?_
    refine g_aload_n C dX10_append_51 0 rfl rfl ?_
    refine g_getI (ci := 10) (j := 7) C dX10_append_52 rfl (by decide) rfl inT_X10 (by decide) k_512 rfl rfl ?_
    obtain rfl := Option.some.inj h
    exact hE 55 _ dX10_append_55
  · replace h := it_f c_8 h
    refine g_aload_n C dX10_append_18 0 rfl rfl ?_
    refine g_iconst (v := (1 : Int32)) C dX10_append_19 (by decide) ?_
    obtain ⟨r_7, m_7, hk_7, h⟩ := b2_some h
    refine g_vI (As := [.int (1 : Int32)]) (a := 95) (ci := 10) C dX10_append_20 mf_X10_fails k_517 rfl (by decide) ⟨by decide, by decide⟩ rfl rfl (Nat.le_of_ble_eq_true rfl) (by decide) rfl (c_X10_fails N (gl Γ) C.2.2.2.2 (gw Γ) (1 : Int32) m_1 _ hk_7) ?_
    obtain rfl := Option.some.inj h
    exact hE 23 _ dX10_append_23
theorem c_X10_append (N : Nat) (l : Launch) (hst : l.stackTraces = false) (w : Om) (v1 : Int32) (v2 : Int32) (v3 : Int32) (v4 : Int32) (v5 : Int32) (m : Mem) (o : Int32 × Mem) (h : f_X10_append N v1 v2 v3 v4 v5 m = some o) : KI l yX10_append cX10_append 6 (some .int) 1 22 w [.ref (oa w 95), .int v1, .int v2, .int v3, .int v4, .int v5] m o.1 o.2 := KI_of hst (by decide +kernel) RX10 rfl (Nat.le_of_ble_eq_true rfl) (fun Γ hw hl C hE => by
  subst hw; subst hl
  exact t_X10_append N Γ C v1 v2 v3 v4 v5 m o h hE)
set_option maxRecDepth 100000 in
set_option maxHeartbeats 4000000 in
theorem t_X10_truncate (N : Nat) (Γ : Gc) (C : Cx Γ cX10_truncate 2 RX10 (rmK 1 22 0)) (v1 : Int32) (m : Mem) (b : Int32 × Mem) (h : f_X10_truncate N v1 m = some b) (hE : EIn Γ 2 cX10_truncate b) : G Γ 2 0 m 0 [(0, .ref (oa (gw Γ) 95)), (1, .int v1)] [] := by
  unfold f_X10_truncate at h
  refine g_aload_n C dX10_truncate_0 0 rfl rfl ?_
  refine g_iconst (v := (0 : Int32)) C dX10_truncate_1 (by decide) ?_
  obtain ⟨m_1, e_1, h⟩ := wr_some h
  refine g_putI (ci := 10) (j := 0) C dX10_truncate_2 rfl (by decide) rfl inT_X10 (by decide) k_505 tyX10 tyX10_ok nmX10 rfl rfl rfl rfl rfl (G_m e_1 ?_)
  refine g_iload_n C dX10_truncate_5 1 rfl rfl ?_
  refine g_iconst (v := (0 : Int32)) C dX10_truncate_6 (by decide) ?_
  refine g_aload_n C dX10_truncate_7 0 rfl rfl ?_
  refine g_getI (ci := 10) (j := 7) C dX10_truncate_8 rfl (by decide) rfl inT_X10 (by decide) k_512 rfl rfl ?_
  obtain ⟨r_2, m_2, hk_2, h⟩ := b2_some h
  refine g_sI (As := [.int v1, .int (0 : Int32), .int (gI m_1 95 7)]) C dX10_truncate_11 mf_X10_in k_507 ⟨by decide, by decide⟩ rfl rfl (Nat.le_of_ble_eq_true rfl) (by decide) (c_X10_in N (gl Γ) C.2.2.2.2 (gw Γ) v1 (0 : Int32) (gI m_1 95 7) m_1 _ hk_2) ?_
  refine g_if_ne (tgt := 23) C dX10_truncate_14 (by decide) (fun c_5 => ?_) (fun c_5 => ?_)
  · replace h := it_f c_5 h
    refine g_aload_n C dX10_truncate_23 0 rfl rfl ?_
    refine g_iload_n C dX10_truncate_24 1 rfl rfl ?_
    obtain ⟨m_3, e_3, h⟩ := wr_some h
    refine g_putI (ci := 10) (j := 7) C dX10_truncate_25 rfl (by decide) rfl inT_X10 (by decide) k_512 tyX10 tyX10_ok nmX10 rfl rfl rfl rfl rfl (G_m e_3 ?_)
    refine g_aload_n C dX10_truncate_28 0 rfl rfl ?_
    refine g_getI (ci := 10) (j := 7) C dX10_truncate_29 rfl (by decide) rfl inT_X10 (by decide) k_512 rfl rfl ?_
    obtain rfl := Option.some.inj h
    exact hE 32 _ dX10_truncate_32
  · replace h := it_t c_5 h
    refine g_aload_n C dX10_truncate_17 0 rfl rfl ?_
    refine g_iconst (v := (1 : Int32)) C dX10_truncate_18 (by decide) ?_
    obtain ⟨r_4, m_4, hk_4, h⟩ := b2_some h
    refine g_vI (As := [.int (1 : Int32)]) (a := 95) (ci := 10) C dX10_truncate_19 mf_X10_fails k_517 rfl (by decide) ⟨by decide, by decide⟩ rfl rfl (Nat.le_of_ble_eq_true rfl) (by decide) rfl (c_X10_fails N (gl Γ) C.2.2.2.2 (gw Γ) (1 : Int32) m_2 _ hk_4) ?_
    obtain rfl := Option.some.inj h
    exact hE 22 _ dX10_truncate_22
theorem c_X10_truncate (N : Nat) (l : Launch) (hst : l.stackTraces = false) (w : Om) (v1 : Int32) (m : Mem) (o : Int32 × Mem) (h : f_X10_truncate N v1 m = some o) : KI l yX10_truncate cX10_truncate 2 (some .int) 1 22 w [.ref (oa w 95), .int v1] m o.1 o.2 := KI_of hst (by decide +kernel) RX10 rfl (Nat.le_of_ble_eq_true rfl) (fun Γ hw hl C hE => by
  subst hw; subst hl
  exact t_X10_truncate N Γ C v1 m o h hE)
def Ex_X10_here_0 (Γ : Gc) (cs : Nat) (b : Mem) : Prop := (∀  (m' : Mem), b = m' → G Γ 1 cs m' 52 [(0, .ref (oa (gw Γ) 95))] [])
set_option maxRecDepth 100000 in
set_option maxHeartbeats 4000000 in
theorem t_X10_here_39 (N : Nat) (Γ : Gc) (C : Cx Γ cX10_here 1 RX10 (rmK 0 0 0)) (rc : Mem → Option (Mem)) (b : Mem) (hE : Ex_X10_here_0 Γ 0 b) (hrec : ∀  (m : Mem) (b : Mem), rc  m = some b → Ex_X10_here_0 Γ 0 b → G Γ 1 0 m 0 [(0, .ref (oa (gw Γ) 95))] [])  (m : Mem) (h : B_X10_here_39 N rc  m = some b) : G Γ 1 0 m 39 [(0, .ref (oa (gw Γ) 95))] [] := by
  unfold B_X10_here_39 at h
  refine g_aload_n C dX10_here_39 0 rfl rfl ?_
  refine g_dup C dX10_here_40 rfl ?_
  refine g_getI (ci := 10) (j := 8) C dX10_here_41 rfl (by decide) rfl inT_X10 (by decide) k_521 rfl rfl ?_
  refine g_iconst (v := (1 : Int32)) C dX10_here_44 (by decide) ?_
  refine g_iadd C dX10_here_45 ?_
  obtain ⟨m_2, e_2, h⟩ := wr_some h
  refine g_putI (ci := 10) (j := 8) C dX10_here_46 rfl (by decide) rfl inT_X10 (by decide) k_521 tyX10 tyX10_ok nmX10 rfl rfl rfl rfl rfl (G_m e_2 ?_)
  refine g_goto (tgt := 0) C dX10_here_49 (by decide) ?_
  refine g_sub [0] rfl ?_
  exact hrec  m_2 b h hE
set_option maxRecDepth 100000 in
set_option maxHeartbeats 4000000 in
theorem t_X10_here_0 (N : Nat) (Γ : Gc) (C : Cx Γ cX10_here 1 RX10 (rmK 0 0 0)) (rc : Mem → Option (Mem)) (b : Mem) (hE : Ex_X10_here_0 Γ 0 b) (hrec : ∀  (m : Mem) (b : Mem), rc  m = some b → Ex_X10_here_0 Γ 0 b → G Γ 1 0 m 0 [(0, .ref (oa (gw Γ) 95))] [])  (m : Mem) (h : T_X10_here_0 N rc  m = some b) : G Γ 1 0 m 0 [(0, .ref (oa (gw Γ) 95))] [] := by
  unfold T_X10_here_0 at h
  refine g_aload_n C dX10_here_0 0 rfl rfl ?_
  refine g_getI (ci := 10) (j := 8) C dX10_here_1 rfl (by decide) rfl inT_X10 (by decide) k_521 rfl rfl ?_
  refine g_aload_n C dX10_here_4 0 rfl rfl ?_
  refine g_getI (ci := 10) (j := 7) C dX10_here_5 rfl (by decide) rfl inT_X10 (by decide) k_512 rfl rfl ?_
  refine g_icmp_ge (tgt := 52) C dX10_here_8 (by decide) (fun c_5 => ?_) (fun c_5 => ?_)
  · replace h := it_t c_5 h
    obtain rfl := Option.some.inj h
    refine g_sub [0] rfl ?_
    exact hE _ rfl
  · replace h := it_f c_5 h
    refine g_aload_n C dX10_here_11 0 rfl rfl ?_
    refine g_getT (b := 100) (ci := 10) (j := 6) C dX10_here_12 rfl (by decide) rfl inT_X10 (by decide) k_511 rfl rfl rfl rfl ?_
    refine g_aload_n C dX10_here_15 0 rfl rfl ?_
    refine g_getI (ci := 10) (j := 8) C dX10_here_16 rfl (by decide) rfl inT_X10 (by decide) k_521 rfl rfl ?_
    obtain ⟨g_1, h⟩ := gd_some h
    refine g_iald C dX10_here_19 (okA_of rfl rfl g_1) ?_
    refine g_bipush (v := (32 : Int32)) C dX10_here_20 (by decide) ?_
    refine g_icmp_eq (tgt := 39) C dX10_here_22 (by decide) (fun c_4 => ?_) (fun c_4 => ?_)
    · replace h := it_t c_4 h
      refine g_sub [0] rfl ?_
      exact t_X10_here_39 N Γ C rc b hE hrec  m h
    · replace h := it_f c_4 h
      refine g_aload_n C dX10_here_25 0 rfl rfl ?_
      refine g_getT (b := 100) (ci := 10) (j := 6) C dX10_here_26 rfl (by decide) rfl inT_X10 (by decide) k_511 rfl rfl rfl rfl ?_
      refine g_aload_n C dX10_here_29 0 rfl rfl ?_
      refine g_getI (ci := 10) (j := 8) C dX10_here_30 rfl (by decide) rfl inT_X10 (by decide) k_521 rfl rfl ?_
      refine g_iald C dX10_here_33 (okA_of rfl rfl g_1) ?_
      refine g_bipush (v := (10 : Int32)) C dX10_here_34 (by decide) ?_
      refine g_icmp_ne (tgt := 52) C dX10_here_36 (by decide) (fun c_3 => ?_) (fun c_3 => ?_)
      · replace h := it_f c_3 h
        obtain rfl := Option.some.inj h
        refine g_sub [0] rfl ?_
        exact hE _ rfl
      · replace h := it_t c_3 h
        refine g_sub [0] rfl ?_
        exact t_X10_here_39 N Γ C rc b hE hrec  m h
theorem lt_X10_here_0 (N : Nat) (Γ : Gc) (C : Cx Γ cX10_here 1 RX10 (rmK 0 0 0)) : ∀ (n : Nat)  (m : Mem) (b : Mem), L_X10_here_0 N n  m = some b → Ex_X10_here_0 Γ 0 b → G Γ 1 0 m 0 [(0, .ref (oa (gw Γ) 95))] [] := by
  intro n
  induction n with
  | zero =>
    intro  m b h
    have h9 : (none : Option (Mem)) = some b := h
    cases h9
  | succ n ih => intro  m b h hE; exact t_X10_here_0 N Γ C (L_X10_here_0 N n) b hE ih  m h
set_option maxRecDepth 100000 in
set_option maxHeartbeats 4000000 in
theorem t_X10_here_52 (N : Nat) (Γ : Gc) (C : Cx Γ cX10_here 1 RX10 (rmK 0 0 0)) (b : Int32 × Mem) (hE : EIn Γ 1 cX10_here b)  (m : Mem) (h : B_X10_here_52 N  m = some b) : G Γ 1 0 m 52 [(0, .ref (oa (gw Γ) 95))] [] := by
  unfold B_X10_here_52 at h
  refine g_aload_n C dX10_here_52 0 rfl rfl ?_
  refine g_getI (ci := 10) (j := 8) C dX10_here_53 rfl (by decide) rfl inT_X10 (by decide) k_521 rfl rfl ?_
  refine g_aload_n C dX10_here_56 0 rfl rfl ?_
  refine g_getI (ci := 10) (j := 7) C dX10_here_57 rfl (by decide) rfl inT_X10 (by decide) k_512 rfl rfl ?_
  refine g_icmp_ge (tgt := 75) C dX10_here_60 (by decide) (fun c_8 => ?_) (fun c_8 => ?_)
  · replace h := it_t c_8 h
    refine g_iconst (v := (-1 : Int32)) C dX10_here_75 (by decide) ?_
    obtain rfl := Option.some.inj h
    exact hE 76 _ dX10_here_76
  · replace h := it_f c_8 h
    refine g_aload_n C dX10_here_63 0 rfl rfl ?_
    refine g_getT (b := 100) (ci := 10) (j := 6) C dX10_here_64 rfl (by decide) rfl inT_X10 (by decide) k_511 rfl rfl rfl rfl ?_
    refine g_aload_n C dX10_here_67 0 rfl rfl ?_
    refine g_getI (ci := 10) (j := 8) C dX10_here_68 rfl (by decide) rfl inT_X10 (by decide) k_521 rfl rfl ?_
    obtain ⟨g_7, h⟩ := gd_some h
    refine g_iald C dX10_here_71 (okA_of rfl rfl g_7) ?_
    refine g_goto (tgt := 76) C dX10_here_72 (by decide) ?_
    obtain rfl := Option.some.inj h
    exact hE 76 _ dX10_here_76
set_option maxRecDepth 100000 in
set_option maxHeartbeats 4000000 in
theorem t_X10_here (N : Nat) (Γ : Gc) (C : Cx Γ cX10_here 1 RX10 (rmK 0 0 0))  (m : Mem) (b : Int32 × Mem) (h : f_X10_here N  m = some b) (hE : EIn Γ 1 cX10_here b) : G Γ 1 0 m 0 [(0, .ref (oa (gw Γ) 95))] [] := by
  unfold f_X10_here at h
  obtain ⟨m_6, hx, h⟩ := l1_some h
  refine g_sub [0] rfl ?_
  refine lt_X10_here_0 N Γ C N  m _ hx ?_
  intro  m9 e9
  cases e9
  refine g_sub [0] rfl ?_
  exact t_X10_here_52 N Γ C b hE  m_6 h
theorem c_X10_here (N : Nat) (l : Launch) (hst : l.stackTraces = false) (w : Om)  (m : Mem) (o : Int32 × Mem) (h : f_X10_here N  m = some o) : KI l yX10_here cX10_here 1 (some .int) 0 0 w [.ref (oa w 95)] m o.1 o.2 := KI_of hst (by decide +kernel) RX10 rfl (Nat.le_of_ble_eq_true rfl) (fun Γ hw hl C hE => by
  subst hw; subst hl
  exact t_X10_here N Γ C  m o h hE)
set_option maxRecDepth 100000 in
set_option maxHeartbeats 4000000 in
theorem t_X10_wrong (N : Nat) (Γ : Gc) (C : Cx Γ cX10_wrong 3 RX10 (rmK 0 0 0)) (v1 : Int32) (v2 : Int32) (m : Mem) (b : Mem) (h : f_X10_wrong N v1 v2 m = some b) (hE : EVn Γ 3 cX10_wrong b) : G Γ 3 0 m 0 [(0, .ref (oa (gw Γ) 95)), (1, .int v1), (2, .int v2)] [] := by
  unfold f_X10_wrong at h
  refine g_aload_n C dX10_wrong_0 0 rfl rfl ?_
  refine g_getI (ci := 10) (j := 11) C dX10_wrong_1 rfl (by decide) rfl inT_X10 (by decide) k_522 rfl rfl ?_
  refine g_if_eq (tgt := 8) C dX10_wrong_4 (by decide) (fun c_4 => ?_) (fun c_4 => ?_)
  · replace h := it_t c_4 h
    refine g_aload_n C dX10_wrong_8 0 rfl rfl ?_
    refine g_iconst (v := (1 : Int32)) C dX10_wrong_9 (by decide) ?_
    obtain ⟨m_1, e_1, h⟩ := wr_some h
    refine g_putI (ci := 10) (j := 11) C dX10_wrong_10 rfl (by decide) rfl inT_X10 (by decide) k_522 tyX10 tyX10_ok nmX10 rfl rfl rfl (isB_n (show isB (1 : Int32) = true by decide)) (isB_f (show isB (1 : Int32) = true by decide)) (G_m e_1 ?_)
    refine g_aload_n C dX10_wrong_13 0 rfl rfl ?_
    refine g_iload_n C dX10_wrong_14 1 rfl rfl ?_
    obtain ⟨m_2, e_2, h⟩ := wr_some h
    refine g_putI (ci := 10) (j := 9) C dX10_wrong_15 rfl (by decide) rfl inT_X10 (by decide) k_523 tyX10 tyX10_ok nmX10 rfl rfl rfl rfl rfl (G_m e_2 ?_)
    refine g_aload_n C dX10_wrong_18 0 rfl rfl ?_
    refine g_iload_n C dX10_wrong_19 2 rfl rfl ?_
    obtain ⟨m_3, e_3, h⟩ := wr_some h
    refine g_putI (ci := 10) (j := 10) C dX10_wrong_20 rfl (by decide) rfl inT_X10 (by decide) k_524 tyX10 tyX10_ok nmX10 rfl rfl rfl rfl rfl (G_m e_3 ?_)
    obtain rfl := Option.some.inj h
    exact hE 23 _ dX10_wrong_23
  · replace h := it_f c_4 h
    obtain rfl := Option.some.inj h
    exact hE 7 _ dX10_wrong_7
theorem c_X10_wrong (N : Nat) (l : Launch) (hst : l.stackTraces = false) (w : Om) (v1 : Int32) (v2 : Int32) (m : Mem) (o : Mem) (h : f_X10_wrong N v1 v2 m = some o) : KV l yX10_wrong cX10_wrong 3 none 0 0 w [.ref (oa w 95), .int v1, .int v2] m o := KV_of hst (by decide +kernel) RX10 rfl (Nat.le_of_ble_eq_true rfl) (fun Γ hw hl C hE => by
  subst hw; subst hl
  exact t_X10_wrong N Γ C v1 v2 m o h hE)
def Ex_X10_wordEnd_5 (Γ : Gc) (cs : Nat) (b : Int32 × Mem) : Prop := (∀ (y1 : Int32) (m' : Mem), b = (y1, m') → G Γ 2 cs m' 35 [(1, .int y1)] [])
set_option maxRecDepth 100000 in
set_option maxHeartbeats 4000000 in
theorem t_X10_wordEnd_5 (N : Nat) (Γ : Gc) (C : Cx Γ cX10_wordEnd 2 RX10 (rmK 1 22 0)) (rc : Int32 → Mem → Option (Int32 × Mem)) (b : Int32 × Mem) (hE : Ex_X10_wordEnd_5 Γ 0 b) (hrec : ∀ (v1 : Int32) (m : Mem) (b : Int32 × Mem), rc v1 m = some b → Ex_X10_wordEnd_5 Γ 0 b → G Γ 2 0 m 5 [(0, .ref (oa (gw Γ) 95)), (1, .int v1)] []) (v1 : Int32) (m : Mem) (h : T_X10_wordEnd_5 N rc v1 m = some b) : G Γ 2 0 m 5 [(0, .ref (oa (gw Γ) 95)), (1, .int v1)] [] := by
  unfold T_X10_wordEnd_5 at h
  refine g_iload_n C dX10_wordEnd_5 1 rfl rfl ?_
  refine g_aload_n C dX10_wordEnd_6 0 rfl rfl ?_
  refine g_getI (ci := 10) (j := 7) C dX10_wordEnd_7 rfl (by decide) rfl inT_X10 (by decide) k_512 rfl rfl ?_
  refine g_icmp_ge (tgt := 35) C dX10_wordEnd_10 (by decide) (fun c_4 => ?_) (fun c_4 => ?_)
  · replace h := it_t c_4 h
    obtain rfl := Option.some.inj h
    refine g_sub [1] rfl ?_
    exact hE _ _ rfl
  · replace h := it_f c_4 h
    refine g_aload_n C dX10_wordEnd_13 0 rfl rfl ?_
    refine g_getT (b := 100) (ci := 10) (j := 6) C dX10_wordEnd_14 rfl (by decide) rfl inT_X10 (by decide) k_511 rfl rfl rfl rfl ?_
    refine g_iload_n C dX10_wordEnd_17 1 rfl rfl ?_
    obtain ⟨g_1, h⟩ := gd_some h
    refine g_iald C dX10_wordEnd_18 (okA_of rfl rfl g_1) ?_
    refine g_bipush (v := (97 : Int32)) C dX10_wordEnd_19 (by decide) ?_
    refine g_bipush (v := (122 : Int32)) C dX10_wordEnd_21 (by decide) ?_
    obtain ⟨r_2, m_2, hk_2, h⟩ := b2_some h
    refine g_sI (As := [.int (gI m 100 v1.toNatClampNeg), .int (97 : Int32), .int (122 : Int32)]) C dX10_wordEnd_23 mf_X10_in k_507 ⟨by decide, by decide⟩ rfl rfl (Nat.le_of_ble_eq_true rfl) (by decide) (c_X10_in N (gl Γ) C.2.2.2.2 (gw Γ) (gI m 100 v1.toNatClampNeg) (97 : Int32) (122 : Int32) m _ hk_2) ?_
    refine g_if_eq (tgt := 35) C dX10_wordEnd_26 (by decide) (fun c_3 => ?_) (fun c_3 => ?_)
    · replace h := it_t c_3 h
      obtain rfl := Option.some.inj h
      refine g_sub [1] rfl ?_
      exact hE _ _ rfl
    · replace h := it_f c_3 h
      refine g_iinc (q := 1) (v := v1 + (1 : Int32)) (lv' := [(1, .int (v1 + (1 : Int32))), (0, .ref (oa (gw Γ) 95))]) C dX10_wordEnd_29 rfl rfl (by decide) rfl ?_
      refine g_goto (tgt := 5) C dX10_wordEnd_32 (by decide) ?_
      refine g_sub [1, 0] rfl ?_
      exact hrec (v1 + (1 : Int32)) m_2 b h hE
theorem lt_X10_wordEnd_5 (N : Nat) (Γ : Gc) (C : Cx Γ cX10_wordEnd 2 RX10 (rmK 1 22 0)) : ∀ (n : Nat) (v1 : Int32) (m : Mem) (b : Int32 × Mem), L_X10_wordEnd_5 N n v1 m = some b → Ex_X10_wordEnd_5 Γ 0 b → G Γ 2 0 m 5 [(0, .ref (oa (gw Γ) 95)), (1, .int v1)] [] := by
  intro n
  induction n with
  | zero =>
    intro v1 m b h
    have h9 : (none : Option (Int32 × Mem)) = some b := h
    cases h9
  | succ n ih => intro v1 m b h hE; exact t_X10_wordEnd_5 N Γ C (L_X10_wordEnd_5 N n) b hE ih v1 m h
set_option maxRecDepth 100000 in
set_option maxHeartbeats 4000000 in
theorem t_X10_wordEnd (N : Nat) (Γ : Gc) (C : Cx Γ cX10_wordEnd 2 RX10 (rmK 1 22 0))  (m : Mem) (b : Int32 × Mem) (h : f_X10_wordEnd N  m = some b) (hE : EIn Γ 2 cX10_wordEnd b) : G Γ 2 0 m 0 [(0, .ref (oa (gw Γ) 95))] [] := by
  unfold f_X10_wordEnd at h
  refine g_aload_n C dX10_wordEnd_0 0 rfl rfl ?_
  refine g_getI (ci := 10) (j := 8) C dX10_wordEnd_1 rfl (by decide) rfl inT_X10 (by decide) k_521 rfl rfl ?_
  refine g_istore_n (lv' := [(1, .int (gI m 95 8)), (0, .ref (oa (gw Γ) 95))]) C dX10_wordEnd_4 rfl (by decide) rfl ?_
  obtain ⟨v1_5, m_5, hx, h⟩ := l2_some h
  refine g_sub [1, 0] rfl ?_
  refine lt_X10_wordEnd_5 N Γ C N (gI m 95 8) m _ hx ?_
  intro z1 m9 e9
  cases e9
  refine g_iload_n C dX10_wordEnd_35 0 rfl rfl ?_
  obtain rfl := Option.some.inj h
  exact hE 36 _ dX10_wordEnd_36
theorem c_X10_wordEnd (N : Nat) (l : Launch) (hst : l.stackTraces = false) (w : Om)  (m : Mem) (o : Int32 × Mem) (h : f_X10_wordEnd N  m = some o) : KI l yX10_wordEnd cX10_wordEnd 2 (some .int) 1 22 w [.ref (oa w 95)] m o.1 o.2 := KI_of hst (by decide +kernel) RX10 rfl (Nat.le_of_ble_eq_true rfl) (fun Γ hw hl C hE => by
  subst hw; subst hl
  exact t_X10_wordEnd N Γ C  m o h hE)
def Ex_X10_word_13 (Γ : Gc) (cs : Nat) (b : Int64 × Mem) : Prop := (∀ (y1 : Int64) (m' : Mem), b = (y1, m') → G Γ 5 cs m' 61 [(1, .long y1)] [])
set_option maxRecDepth 100000 in
set_option maxHeartbeats 4000000 in
theorem t_X10_word_13 (N : Nat) (Γ : Gc) (C : Cx Γ cX10_word 5 RX10 (rmK 2 43 0)) (rc : Int64 → Int32 → Int32 → Mem → Option (Int64 × Mem)) (b : Int64 × Mem) (hE : Ex_X10_word_13 Γ 0 b) (hrec : ∀ (v1 : Int64) (v3 : Int32) (v4 : Int32) (m : Mem) (b : Int64 × Mem), rc v1 v3 v4 m = some b → Ex_X10_word_13 Γ 0 b → G Γ 5 0 m 13 [(0, .ref (oa (gw Γ) 95)), (1, .long v1), (3, .int v3), (4, .int v4)] []) (v1 : Int64) (v3 : Int32) (v4 : Int32) (m : Mem) (h : T_X10_word_13 N rc v1 v3 v4 m = some b) : G Γ 5 0 m 13 [(0, .ref (oa (gw Γ) 95)), (1, .long v1), (3, .int v3), (4, .int v4)] [] := by
  unfold T_X10_word_13 at h
  refine g_iload C dX10_word_13 3 rfl ?_
  refine g_iload_n C dX10_word_15 2 rfl rfl ?_
  refine g_icmp_ge (tgt := 61) C dX10_word_16 (by decide) (fun c_4 => ?_) (fun c_4 => ?_)
  · replace h := it_t c_4 h
    obtain rfl := Option.some.inj h
    refine g_sub [1] rfl ?_
    exact hE _ _ rfl
  · replace h := it_f c_4 h
    refine g_iload_n C dX10_word_19 2 rfl rfl ?_
    refine g_aload_n C dX10_word_20 0 rfl rfl ?_
    refine g_getI (ci := 10) (j := 8) C dX10_word_21 rfl (by decide) rfl inT_X10 (by decide) k_521 rfl rfl ?_
    refine g_isub C dX10_word_24 ?_
    refine g_bipush (v := (9 : Int32)) C dX10_word_25 (by decide) ?_
    refine g_icmp_le (tgt := 36) C dX10_word_27 (by decide) (fun c_3 => ?_) (fun c_3 => ?_)
    · replace h := it_t c_3 h
      refine g_ldc2 (v := (27 : Int64)) C dX10_word_36 k_529 ?_
      refine g_lload_n C dX10_word_39 1 rfl rfl ?_
      refine g_lmul C dX10_word_40 ?_
      refine g_aload_n C dX10_word_41 0 rfl rfl ?_
      refine g_getT (b := 100) (ci := 10) (j := 6) C dX10_word_42 rfl (by decide) rfl inT_X10 (by decide) k_511 rfl rfl rfl rfl ?_
      refine g_iload C dX10_word_45 3 rfl ?_
      obtain ⟨g_2, h⟩ := gd_some h
      refine g_iald C dX10_word_47 (okA_of rfl rfl g_2) ?_
      refine g_i2l C dX10_word_48 ?_
      refine g_ladd C dX10_word_49 ?_
      refine g_ldc2 (v := (96 : Int64)) C dX10_word_50 k_530 ?_
      refine g_lsub C dX10_word_53 ?_
      refine g_lstore_n (lv' := [(1, .long ((((27 : Int64) * v1) + ((gI m 100 v4.toNatClampNeg).toInt64)) - (96 : Int64))), (0, .ref (oa (gw Γ) 95)), (3, .int v3), (4, .int v4)]) C dX10_word_54 rfl (by decide) rfl ?_
      refine g_iinc (q := 3) (v := v4 + (1 : Int32)) (lv' := [(4, .int (v4 + (1 : Int32))), (1, .long ((((27 : Int64) * v1) + ((gI m 100 v4.toNatClampNeg).toInt64)) - (96 : Int64))), (0, .ref (oa (gw Γ) 95)), (3, .int v3)]) C dX10_word_55 rfl rfl (by decide) rfl ?_
      refine g_goto (tgt := 13) C dX10_word_58 (by decide) ?_
      refine g_sub [2, 1, 3, 0] rfl ?_
      exact hrec ((((27 : Int64) * v1) + ((gI m 100 v4.toNatClampNeg).toInt64)) - (96 : Int64)) v3 (v4 + (1 : Int32)) m b h hE
    · replace h := it_f c_3 h
      refine g_ldc2 (v := (-1 : Int64)) C dX10_word_30 k_531 ?_
      refine g_goto (tgt := 54) C dX10_word_33 (by decide) ?_
      refine g_lstore_n (lv' := [(1, .long (-1 : Int64)), (0, .ref (oa (gw Γ) 95)), (3, .int v3), (4, .int v4)]) C dX10_word_54 rfl (by decide) rfl ?_
      refine g_iinc (q := 3) (v := v4 + (1 : Int32)) (lv' := [(4, .int (v4 + (1 : Int32))), (1, .long (-1 : Int64)), (0, .ref (oa (gw Γ) 95)), (3, .int v3)]) C dX10_word_55 rfl rfl (by decide) rfl ?_
      refine g_goto (tgt := 13) C dX10_word_58 (by decide) ?_
      refine g_sub [2, 1, 3, 0] rfl ?_
      exact hrec (-1 : Int64) v3 (v4 + (1 : Int32)) m b h hE
theorem lt_X10_word_13 (N : Nat) (Γ : Gc) (C : Cx Γ cX10_word 5 RX10 (rmK 2 43 0)) : ∀ (n : Nat) (v1 : Int64) (v3 : Int32) (v4 : Int32) (m : Mem) (b : Int64 × Mem), L_X10_word_13 N n v1 v3 v4 m = some b → Ex_X10_word_13 Γ 0 b → G Γ 5 0 m 13 [(0, .ref (oa (gw Γ) 95)), (1, .long v1), (3, .int v3), (4, .int v4)] [] := by
  intro n
  induction n with
  | zero =>
    intro v1 v3 v4 m b h
    have h9 : (none : Option (Int64 × Mem)) = some b := h
    cases h9
  | succ n ih => intro v1 v3 v4 m b h hE; exact t_X10_word_13 N Γ C (L_X10_word_13 N n) b hE ih v1 v3 v4 m h
set_option maxRecDepth 100000 in
set_option maxHeartbeats 4000000 in
theorem t_X10_word (N : Nat) (Γ : Gc) (C : Cx Γ cX10_word 5 RX10 (rmK 2 43 0))  (m : Mem) (b : Int64 × Mem) (h : f_X10_word N  m = some b) (hE : ELn Γ 5 cX10_word b) : G Γ 5 0 m 0 [(0, .ref (oa (gw Γ) 95))] [] := by
  unfold f_X10_word at h
  refine g_lconst (v := (0 : Int64)) C dX10_word_0 (by decide) ?_
  refine g_lstore_n (lv' := [(1, .long (0 : Int64)), (0, .ref (oa (gw Γ) 95))]) C dX10_word_1 rfl (by decide) rfl ?_
  refine g_aload_n C dX10_word_2 1 rfl rfl ?_
  obtain ⟨r_1, m_1, hk_1, h⟩ := b2_some h
  refine g_vI (As := []) (a := 95) (ci := 10) C dX10_word_3 mf_X10_wordEnd k_525 rfl (by decide) ⟨by decide, by decide⟩ rfl rfl (Nat.le_of_ble_eq_true rfl) (by decide) rfl (c_X10_wordEnd N (gl Γ) C.2.2.2.2 (gw Γ)  m _ hk_1) ?_
  refine g_istore_n (lv' := [(3, .int r_1), (1, .long (0 : Int64)), (0, .ref (oa (gw Γ) 95))]) C dX10_word_6 rfl (by decide) rfl ?_
  refine g_aload_n C dX10_word_7 2 rfl rfl ?_
  refine g_getI (ci := 10) (j := 8) C dX10_word_8 rfl (by decide) rfl inT_X10 (by decide) k_521 rfl rfl ?_
  refine g_istore (lv' := [(4, .int (gI m_1 95 8)), (3, .int r_1), (1, .long (0 : Int64)), (0, .ref (oa (gw Γ) 95))]) C dX10_word_11 (by decide) rfl ?_
  obtain ⟨v1_5, m_5, hx, h⟩ := l2_some h
  refine g_sub [3, 2, 1, 0] rfl ?_
  refine lt_X10_word_13 N Γ C N (0 : Int64) r_1 (gI m_1 95 8) m_1 _ hx ?_
  intro z1 m9 e9
  cases e9
  refine g_lload_n C dX10_word_61 0 rfl rfl ?_
  obtain rfl := Option.some.inj h
  exact hE 62 _ dX10_word_62
theorem c_X10_word (N : Nat) (l : Launch) (hst : l.stackTraces = false) (w : Om)  (m : Mem) (o : Int64 × Mem) (h : f_X10_word N  m = some o) : KL l yX10_word cX10_word 5 (some .long) 2 43 w [.ref (oa w 95)] m o.1 o.2 := KL_of hst (by decide +kernel) RX10 rfl (Nat.le_of_ble_eq_true rfl) (fun Γ hw hl C hE => by
  subst hw; subst hl
  exact t_X10_word N Γ C  m o h hE)
