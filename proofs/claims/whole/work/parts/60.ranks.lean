/-! ADJUSTED, NORMALIZED, RANK, TIEROUND, RANKED -/
def SV (a b : Mem) : Prop := gI b 96 = gI a 96 ∧ gI b 98 = gI a 98
theorem SV.zsv {a b : Mem} (h : SV a b) : sv b = sv a := by
  funext r p
  unfold sv
  rw [h.2]
theorem SV.zrn {a b : Mem} (h : SV a b) : rn b = rn a := by
  funext p
  unfold rn
  rw [h.zsv]
theorem SV.zmf {a b : Mem} (h : SV a b) : mf b = mf a := by
  funext k p
  unfold mf
  rw [h.zsv, h.1]
theorem SV.zbf {a b : Mem} (h : SV a b) : bf b = bf a := by
  funext x y
  unfold bf
  rw [h.zmf]
theorem SV.zsp {a b : Mem} (h : SV a b) : sp b = sp a := by
  funext x y
  unfold sp
  rw [h.zmf]
theorem SV.q {a b : Mem} (h : SV a b) : nQ b = nQ a := by unfold nQ; rw [h.1]
theorem SV.r {a b : Mem} (h : SV a b) : nR b = nR a := by unfold nR; rw [h.1]
theorem SV.p {a b : Mem} (h : SV a b) : nP b = nP a := by unfold nP; rw [h.1]
theorem SV.zinP {a b : Mem} (h : SV a b) : inP b = inP a := by
  funext x y
  unfold inP
  rw [h.1]
theorem UpdE.v {m M : Mem} (h : UpdE m M) : SV m M := ⟨h.1 96 (by omega), h.1 98 (by omega)⟩
/-- the memory in which the model begins to answer -/
def Y0 (M : Mem) (v : Int64) (x : Int32) : Mem := sI (sJ M 108 0 v) 95 0 x
theorem Y0.v (M : Mem) (v : Int64) (x : Int32) : SV M (Y0 M v x) := ⟨sI_ne _ _ (by omega), sI_ne _ _ (by omega)⟩
theorem Y0.rel {M : Mem} (h : Rel M) (v : Int64) (x : Int32) : Rel (Y0 M v x) := (h.core Core.sJ').core (Core.sI95 (by omega))
theorem OpI.upd {fl fm : Mem → Option (Int32 × Mem)} {m M : Mem} (h : Rel m) (u : UpdE m M) {b : Int32} (h1 : fl m = some (0, sJ M 108 0 b.toInt64)) (h2 : fm (sJ M 108 0 b.toInt64) = some (b, Y0 M b.toInt64 0)) : OpI fl fm m :=
  ⟨0, _, b, _, h1, h2, by unfold Y0; rw [gI_sI, if_pos ⟨rfl, rfl⟩], fun _ => by unfold Y0; rw [gJ_sI, gJ_sJ, if_pos ⟨rfl, rfl⟩], Y0.rel (h.core u.core) _ _⟩
theorem OpI.updno {fl fm : Mem → Option (Int32 × Mem)} {m M : Mem} (h : Rel m) (u : UpdE m M) {v w : Int32} (hv : ¬ v = 0) (h1 : fl m = some (v, M)) (h2 : fm M = some (w, sI M 95 0 v)) : OpI fl fm m :=
  ⟨v, _, w, _, h1, h2, by rw [gI_sI, if_pos ⟨rfl, rfl⟩], fun e => absurd e hv, (h.core u.core).core (Core.sI95 (by omega))⟩
theorem op_adjusted {N : Nat} (hN : 17 < N) : Op_adjusted N := by
  intro m hR a b
  by_cases hab : inR a (nR m) = true ∧ inR b (nQ m) = true
  · obtain ⟨r, hr, rfl⟩ := inR_nI hab.1
    obtain ⟨p, hp, rfl⟩ := inR_nI hab.2
    have hRR := hR.b.R.2
    have hQQ := hR.b.Q.2
    have hr12 : r < 12 := by omega
    have hp16 : p < 16 := by omega
    by_cases hz : sv m r p = 0
    · refine OpI.no hR (v := 2) (w := 0) (by decide) ?_ ?_ (Or.inr ⟨0, rfl⟩)
      · unfold f_L_adjusted f_X9_adjusted
        rw [x1_of (c_pair_ok N hR.b hab.1 hab.2), x1_th (show f_X9_checkScore N (nI r) (nI p) m = some (.inr 3, m) by unfold f_X9_checkScore; rw [b2_of (c_hasSc N hR hr12 hp16), if_pos hz, if_pos rfl])]
        rfl
      · have hR2 : Rel (sI m 95 0 0) := hR.core (Core.sI95 (by omega))
        unfold f_X10_adjusted
        rw [b2_of (m_both_ok N hR.b hab.1 hab.2), if_neg (by decide), b2_of (m_isScored N hR2.b hr12 hp16), show sv (sI m 95 0 0) r p = sv m r p from rfl, if_pos hz, if_pos rfl]
        rfl
    · obtain ⟨M, e1, u, e2, e3, e4⟩ := c_update hN hR
      have hM := hR.core u.core
      have hcs : f_X9_checkScore N (nI r) (nI p) m = some (.inl (), m) := by
        unfold f_X9_checkScore
        rw [b2_of (c_hasSc N hR hr12 hp16), if_neg hz, if_neg (by decide)]
      have hzM : ¬ sv M r p = 0 := by rw [u.zsv]; exact hz
      refine OpI.upd hR u (b := zI (aj (sv m) r p)) ?_ ?_
      · unfold f_L_adjusted f_X9_adjusted
        rw [x1_of (c_pair_ok N hR.b hab.1 hab.2), x1_of hcs, b1_of e1, b2_of (c_sv N hM hr12 hp16 hzM), b2_of (c_adj N hM.sN hr12 hp16 (e2 r hr)), u.zsv]
        rfl
      · have v0 := Y0.v M (zI (aj (sv m) r p)).toInt64 0
        have hY := Y0.rel hM (zI (aj (sv m) r p)).toInt64 0
        unfold f_X10_adjusted
        have hb : f_X10_areBoth N (nI r) (nI p) (sJ M 108 0 (zI (aj (sv m) r p)).toInt64) = some (1, Y0 M (zI (aj (sv m) r p)).toInt64 0) := m_both_ok N (hM.core Core.sJ').b (by rw [show nR (sJ M 108 0 (zI (aj (sv m) r p)).toInt64) = nR M from rfl, u.r]; exact hab.1) (by rw [show nQ (sJ M 108 0 (zI (aj (sv m) r p)).toInt64) = nQ M from rfl, u.q]; exact hab.2)
        rw [b2_of hb, if_neg (by decide), b2_of (m_isScored N hY.b hr12 hp16), v0.zsv, if_neg hzM, if_neg (by decide), b2_of (m_adjust (by omega) hY hr12 hp16), v0.zsv, u.zsv]
  · refine OpI.no hR (v := 1) (w := 0) (by decide) ?_ ?_ (Or.inl rfl)
    · unfold f_L_adjusted f_X9_adjusted
      rw [x1_th (c_pair_no N hR.b hab)]
      rfl
    · unfold f_X10_adjusted
      rw [b2_of (m_both_no N hR.b hab)]
      rfl
theorem c_checkRanked (N : Nat) {M : Mem} {p : Nat} (hp : p < 16) (hw : RowP1 M p) : f_X9_checkRanked N (nI p) M = if rn M p = true then some (.inl (), M) else some (.inr 3, M) := by
  unfold f_X9_checkRanked
  rw [b2_of (c_ranked N hp hw)]
  cases rn M p <;> rfl
theorem op_normalized {N : Nat} (hN : 17 < N) : Op_normalized N := by
  intro m hR b
  by_cases hb : inR b (nQ m) = true
  · obtain ⟨p, hp, rfl⟩ := inR_nI hb
    have hQQ := hR.b.Q.2
    have hp16 : p < 16 := by omega
    obtain ⟨M, e1, u, e2, e3, e4⟩ := c_update hN hR
    have hM := hR.core u.core
    have hsn : sn (sv m) p ≤ 12 := cnt_le _ 12
    by_cases hz : sn (sv m) p = 0
    · refine OpI.updno hR u (v := 2) (w := 0) (by decide) ?_ ?_
      · unfold f_L_normalized f_X9_normalized
        rw [x1_of (by rw [c_checkProposal N hR.b, if_pos hb]), b1_of e1, x1_th (by rw [c_checkRanked N hp16 (e3 p hp), u.zrn, if_neg (by unfold rn; simp [hz])])]
        rfl
      · unfold f_X10_normalized B_X10_normalized_26
        rw [b2_of (m_isProposal N hM.b (nI p)), u.q, if_pos hb, if_neg (by decide), b2_of (m_scoresOf' (by omega) hM hp16), u.zsv, hz, if_pos (by decide), rs_no _ (by decide)]
    · refine OpI.upd hR u (b := zI (nm (sv m) p)) ?_ ?_
      · unfold f_L_normalized f_X9_normalized
        rw [x1_of (by rw [c_checkProposal N hR.b, if_pos hb]), b1_of e1, x1_of (by rw [c_checkRanked N hp16 (e3 p hp), u.zrn, if_pos (by unfold rn; exact decide_eq_true hz)]), gd_t (inb_nI hp16 (by omega)), nI_clamp (by omega), (e3 p hp).2.2.1, u.zsv]
        rfl
      · have v0 := Y0.v M (zI (nm (sv m) p)).toInt64 0
        have hY := Y0.rel hM (zI (nm (sv m) p)).toInt64 0
        have hJ : Rel (sJ M 108 0 (zI (nm (sv m) p)).toInt64) := hM.core Core.sJ'
        unfold f_X10_normalized B_X10_normalized_26
        rw [b2_of (m_isProposal N hJ.b (nI p)), show nQ (sJ M 108 0 (zI (nm (sv m) p)).toInt64) = nQ M from rfl, u.q, if_pos hb, if_neg (by decide), b2_of (m_scoresOf' (by omega) hJ hp16), show sv (sJ M 108 0 (zI (nm (sv m) p)).toInt64) = sv M from rfl, u.zsv, if_neg (nI_nle (by omega) (by omega)), rs_ok]
        change b2 (f_X10_normal N (nI p) (Y0 M (zI (nm (sv m) p)).toInt64 0)) _ = _
        rw [b2_of (m_normal (by omega) hY hp16 (by rw [v0.zrn, u.zrn]; unfold rn; exact decide_eq_true hz)), v0.zsv, u.zsv]
  · refine OpI.no hR (v := 1) (w := 0) (by decide) ?_ ?_ (Or.inl rfl)
    · unfold f_L_normalized f_X9_normalized
      rw [x1_th (by rw [c_checkProposal N hR.b, if_neg hb])]
      rfl
    · unfold f_X10_normalized B_X10_normalized_26
      rw [b2_of (m_isProposal N hR.b b), if_neg hb, if_pos rfl, rs_no _ (by decide)]
theorem op_rank {N : Nat} (hN : 17 < N) : Op_rank N := by
  intro m hR b
  by_cases hb : inR b (nQ m) = true
  · obtain ⟨p, hp, rfl⟩ := inR_nI hb
    have hQQ := hR.b.Q.2
    have hp16 : p < 16 := by omega
    obtain ⟨M, e1, u, e2, e3, e4⟩ := c_update hN hR
    have hM := hR.core u.core
    cases hz : rn m p
    · refine OpI.updno hR u (v := 2) (w := 0) (by decide) ?_ ?_
      · unfold f_L_rank f_X9_rank
        rw [x1_of (by rw [c_checkProposal N hR.b, if_pos hb]), b1_of e1, x1_th (by rw [c_checkRanked N hp16 (e3 p hp), u.zrn, hz, if_neg (by decide)])]
        rfl
      · unfold f_X10_rank B_X10_rank_26
        rw [b2_of (m_isProposal N hM.b (nI p)), u.q, if_pos hb, if_neg (by decide), b2_of (m_isRanked (by omega) hM hp16), u.zrn, hz, if_pos (by rfl), rs_no _ (by decide)]
    · have hgo : L_X9_rank_29 N N (nI p) 0 0 M = some (nI (rk (fun q => rn M q && inP M (gI M 96 (59 + 5 * p)) q) (bf M) (nQ M) p), M) := by
        have hQM := hM.b.Q.2
        have hpM : p < nQ M := by rw [u.q]; exact hp
        refine loop_fn (fun n i => L_X9_rank_29 N n (nI p) (nI (rk (fun q => rn M q && inP M (gI M 96 (59 + 5 * p)) q) (bf M) i p)) (nI i) M) (nQ M) _ (fun n i hi => ?_) (fun n => ?_) (nQ M) N 0 (by omega) (by omega)
        · show T_X9_rank_29 N (L_X9_rank_29 N n) _ _ _ _ = L_X9_rank_29 N n _ _ _ _
          have hne : ¬ gI M 96 (59 + 5 * p) = -1 := by
            intro e
            have := hM.b.told (k := 59 + 5 * p) (by omega)
            rw [e] at this
            exact absurd this (by decide)
          unfold T_X9_rank_29
          rw [gd_t (st_k hM.b.s), hM.b.cQ, if_neg (nI_ge hi (by omega)), gd_t (st_ok hM.b.s (by omega) (by omega) (show i < 16 by omega)), gd_t (st_ok hM.b.s (by omega) (by omega) (show p < 16 by omega)), st_rt hM.b.s (by omega) (by omega), nI_clamp (by omega), nI_clamp (by omega), show gI M (gR M 0 7 + (9 - 2)) i = gI M 96 (59 + 5 * i) from (hM.b.rowP hi).1, show gI M (gR M 0 7 + (9 - 2)) p = gI M 96 (59 + 5 * p) from (hM.b.rowP hpM).1, rk_s, nI_1, nI_1]
          unfold inP
          rw [decide_eq_false hne, Bool.false_or]
          by_cases he : gI M 96 (59 + 5 * i) = gI M 96 (59 + 5 * p)
          · rw [if_pos he, b2_of (c_ranked N (by omega) (e3 i (by rw [← u.q]; exact hi))), decide_eq_true he, Bool.and_true]
            cases hri : rn M i
            · rw [if_pos (by rfl), Bool.false_and, if_neg (by decide)]
              rfl
            · rw [if_neg (by decide), b2_of (c_before (by omega) hM hi hpM hri (by rw [u.zrn]; exact hz) (e3 i (by rw [← u.q]; exact hi)) (e3 p hp)), Bool.true_and]
              cases bf M i p <;> rfl
          · rw [if_neg he, decide_eq_false he, Bool.and_false, Bool.false_and, if_neg (by decide)]
            rfl
        · show T_X9_rank_29 N (L_X9_rank_29 N n) _ _ _ _ = _
          unfold T_X9_rank_29
          rw [gd_t (st_k hM.b.s), hM.b.cQ, if_pos (nI_le (Nat.le_refl _) (by omega))]
      refine OpI.upd hR u (b := nI (rk (fun q => rn M q && inP M (gI M 96 (59 + 5 * p)) q) (bf M) (nQ M) p)) ?_ ?_
      · unfold f_L_rank f_X9_rank
        rw [x1_of (by rw [c_checkProposal N hR.b, if_pos hb]), b1_of e1, x1_of (by rw [c_checkRanked N hp16 (e3 p hp), u.zrn, hz, if_pos rfl]), l2_of hgo]
        rfl
      · generalize (nI (rk (fun q => rn M q && inP M (gI M 96 (59 + 5 * p)) q) (bf M) (nQ M) p)).toInt64 = w
        have v0 := Y0.v M w 0
        have hY := Y0.rel hM w 0
        have hJ : Rel (sJ M 108 0 w) := hM.core Core.sJ'
        unfold f_X10_rank B_X10_rank_26
        rw [b2_of (m_isProposal N hJ.b (nI p)), show nQ (sJ M 108 0 w) = nQ M from rfl, u.q, if_pos hb, if_neg (by decide), b2_of (m_isRanked (by omega) hJ hp16), show rn (sJ M 108 0 w) = rn M from rfl, u.zrn, hz, if_neg (by decide), rs_ok]
        change b2 (f_X10_proposal N (nI p) 0 (Y0 M w 0)) _ = _
        have hpr : f_X10_proposal N (nI p) 0 (Y0 M w 0) = some (gI M 96 (59 + 5 * p), Y0 M w 0) := m_proposal N hp16 (show 0 < 5 by omega) _
        have hrk := m_rankIn hN hY (gI M 96 (59 + 5 * p)) (p := p) (by rw [v0.q, u.q]; exact hp) (by rw [v0.zrn, u.zrn]; exact hz)
        rw [v0.zrn, v0.zbf, v0.q, v0.zinP, u.zrn, u.q] at hrk
        rw [b2_of hpr, b2_of hrk]
  · refine OpI.no hR (v := 1) (w := 0) (by decide) ?_ ?_ (Or.inl rfl)
    · unfold f_L_rank f_X9_rank
      rw [x1_th (by rw [c_checkProposal N hR.b, if_neg hb])]
      rfl
    · unfold f_X10_rank B_X10_rank_26
      rw [b2_of (m_isProposal N hR.b b), if_neg hb, if_pos rfl, rs_no _ (by decide)]
theorem op_tieRound {N : Nat} (hN : 17 < N) : Op_tieRound N := by
  intro m hR a b
  by_cases ha : inR a (nQ m) = true
  · by_cases hb : inR b (nQ m) = true
    · by_cases hab : a = b
      · refine OpI.no hR (v := 2) (w := 0) (by decide) ?_ ?_ (Or.inl rfl)
        · unfold f_L_tieRound f_X9_tieRound
          rw [x1_of (by rw [c_checkProposal N hR.b, if_pos ha]), x1_of (by rw [c_checkProposal N hR.b, if_pos hb]), if_pos hab]
          rfl
        · unfold f_X10_tieRound B_X10_tieRound_51
          rw [b2_of (m_isProposal N hR.b a), if_pos ha, if_neg (by decide), b2_of (m_isProposal N hR.b b), if_pos hb, if_neg (by decide), if_pos hab, rs_no _ (by decide)]
      · obtain ⟨p, hp, rfl⟩ := inR_nI ha
        obtain ⟨q, hq, rfl⟩ := inR_nI hb
        have hQQ := hR.b.Q.2
        have hp16 : p < 16 := by omega
        have hq16 : q < 16 := by omega
        have hpq : p ≠ q := fun e => hab (by rw [e])
        obtain ⟨M, e1, u, e2, e3, e4⟩ := c_update hN hR
        have hM := hR.core u.core
        by_cases hz : rn m p = true ∧ rn m q = true
        · refine OpI.upd hR u (b := nI (sp M p q)) ?_ ?_
          · unfold f_L_tieRound f_X9_tieRound
            rw [x1_of (by rw [c_checkProposal N hR.b, if_pos ha]), x1_of (by rw [c_checkProposal N hR.b, if_pos hb]), if_neg hab, b1_of e1, x1_of (by rw [c_checkRanked N hp16 (e3 p hp), u.zrn, hz.1, if_pos rfl]), x1_of (by rw [c_checkRanked N hq16 (e3 q hq), u.zrn, hz.2, if_pos rfl]), b2_of (c_sep (by omega) hM (by rw [u.q]; exact hp) (by rw [u.q]; exact hq) (by rw [u.zrn]; exact hz.1) (by rw [u.zrn]; exact hz.2) (e3 p hp) (e3 q hq))]
            rfl
          · generalize hw : (nI (sp M p q)).toInt64 = w
            have v0 := Y0.v M w 0
            have hY := Y0.rel hM w 0
            have hJ : Rel (sJ M 108 0 w) := hM.core Core.sJ'
            unfold f_X10_tieRound B_X10_tieRound_51
            rw [b2_of (m_isProposal N hJ.b (nI p)), show nQ (sJ M 108 0 w) = nQ M from rfl, u.q, if_pos ha, if_neg (by decide), b2_of (m_isProposal N hJ.b (nI q)), show nQ (sJ M 108 0 w) = nQ M from rfl, u.q, if_pos hb, if_neg (by decide), if_neg hab, b2_of (m_isRanked (by omega) hJ hp16), show rn (sJ M 108 0 w) = rn M from rfl, u.zrn, hz.1, if_neg (by decide), b2_of (m_isRanked (by omega) hJ hq16), show rn (sJ M 108 0 w) = rn M from rfl, u.zrn, hz.2, if_neg (by decide), rs_ok]
            change b2 (f_X10_roundOf N (nI p) (nI q) (Y0 M w 0)) _ = _
            rw [b2_of (m_roundOf (by omega) hY (by rw [v0.q, u.q]; exact hp) (by rw [v0.q, u.q]; exact hq) (by rw [v0.zrn, u.zrn]; exact hz.1) (by rw [v0.zrn, u.zrn]; exact hz.2) hpq), v0.zsp]
        · refine OpI.updno hR u (v := 3) (w := 0) (by decide) ?_ ?_
          · unfold f_L_tieRound f_X9_tieRound
            rw [x1_of (by rw [c_checkProposal N hR.b, if_pos ha]), x1_of (by rw [c_checkProposal N hR.b, if_pos hb]), if_neg hab, b1_of e1]
            by_cases hz1 : rn m p = true
            · rw [x1_of (by rw [c_checkRanked N hp16 (e3 p hp), u.zrn, hz1, if_pos rfl]), x1_th (by rw [c_checkRanked N hq16 (e3 q hq), u.zrn, if_neg (fun e => hz ⟨hz1, e⟩)])]
              rfl
            · rw [x1_th (by rw [c_checkRanked N hp16 (e3 p hp), u.zrn, if_neg hz1])]
              rfl
          · unfold f_X10_tieRound B_X10_tieRound_50 B_X10_tieRound_51
            rw [b2_of (m_isProposal N hM.b (nI p)), u.q, if_pos ha, if_neg (by decide), b2_of (m_isProposal N hM.b (nI q)), u.q, if_pos hb, if_neg (by decide), if_neg hab, b2_of (m_isRanked (by omega) hM hp16), b2_of (m_isRanked (by omega) hM hq16), u.zrn]
            by_cases hz1 : rn m p = true
            · rw [if_pos hz1, if_neg (by decide), if_neg (fun e => hz ⟨hz1, e⟩), if_pos rfl, rs_no _ (by decide)]
            · rw [if_neg hz1, if_pos rfl, rs_no _ (by decide)]
    · refine OpI.no hR (v := 1) (w := 0) (by decide) ?_ ?_ (Or.inl rfl)
      · unfold f_L_tieRound f_X9_tieRound
        rw [x1_of (by rw [c_checkProposal N hR.b, if_pos ha]), x1_th (by rw [c_checkProposal N hR.b, if_neg hb])]
        rfl
      · unfold f_X10_tieRound B_X10_tieRound_17 B_X10_tieRound_51
        rw [b2_of (m_isProposal N hR.b a), if_pos ha, if_neg (by decide), b2_of (m_isProposal N hR.b b), if_neg hb, if_pos rfl, rs_no _ (by decide)]
  · refine OpI.no hR (v := 1) (w := 0) (by decide) ?_ ?_ (Or.inl rfl)
    · unfold f_L_tieRound f_X9_tieRound
      rw [x1_th (by rw [c_checkProposal N hR.b, if_neg ha])]
      rfl
    · unfold f_X10_tieRound B_X10_tieRound_17 B_X10_tieRound_51
      rw [b2_of (m_isProposal N hR.b a), if_neg ha, if_pos rfl, rs_no _ (by decide)]
