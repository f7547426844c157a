/-! AMOUNT, LEFT, POOLLEFT, FUNDED -/
theorem FunE.core {m M : Mem} (h : FunE m M) : Core m M := by
  refine ⟨fun k hk => h.1 k (by omega), fun j _ => by rw [h.1 1 (by omega)], fun j _ => by rw [h.1 95 (by omega)], h.2.1 0 7, h.2.1 0 8, fun hc => ?_⟩
  unfold ChOK ChAt at *
  simp only [h.2.1]
  exact hc
theorem FunE.v {m M : Mem} (h : FunE m M) : SV m M := ⟨h.1 96 (by omega), h.1 98 (by omega)⟩
def nrm (m : Mem) (p : Nat) : Int32 := zI (nm (sv m) p)
theorem SV.znr {a b : Mem} (h : SV a b) : nrm b = nrm a := by
  funext p
  unfold nrm
  rw [h.zsv]
def cO (m : Mem) : Nat := cnt (rn m) (nQ m)
theorem SV.zcO {a b : Mem} (h : SV a b) : cO b = cO a := by
  unfold cO
  rw [h.zrn, h.q]
theorem Upd.o {m M : Mem} (u : Upd m M) : oOK (rn m) (bf m) (nQ m) (od M) := by
  have := u.2.2.2.o
  rw [u.1.zrn, u.1.zbf] at this
  exact this
theorem c_fund {N : Nat} (hN : 17 < N) (mode : Int32) {m : Mem} (h : Rel m) : ∃ M o, f_X9_fund N mode m = some M ∧ FunE m M ∧ oOK (rn m) (bf m) (nQ m) o ∧ gI M 48 2 = (fiS (gI m 96) (nrm m) o (cO m) (nP m) mode (gI m 98 0)).1 ∧ (∀ j, j < 16 → gI M 49 j = (fiS (gI m 96) (nrm m) o (cO m) (nP m) mode (gI m 98 0)).2 j) ∧ (∀ j, j < nP m → gI M 50 j = (fin (gI m 96) (nrm m) o (cO m) (nP m) mode (gI m 98 0)).2.2 j) := by
  obtain ⟨M, e1, u⟩ := c_update hN h
  have hM := h.core u.1.core
  have ho := u.ord h
  obtain ⟨M', a1, a2, a3, a4, a5⟩ := c_dist hN mode (gI m 98 0) hM ho
  rw [u.1.v.1, u.1.v.p] at a3 a4 a5
  refine ⟨M', od M, ?_, FunE.of u.1 a2, u.o, a3, a4, a5⟩
  unfold f_X9_fund
  rw [b1_of e1, show gI M 3 3 = gI m 98 0 by rw [u.1.1 3 (by omega)]; exact h.st.2.1, b1_of a1]
theorem m_pays {N : Nat} (hN : 17 < N) (mode : Int32) {m : Mem} (h : Rel m) {o : Nat → Nat} (ho : oOK (rn m) (bf m) (nQ m) o) : ∃ M, f_X10_pays N mode m = some M ∧ YE m M ∧ gI M 95 22 = (fiS (gI m 96) (nrm m) o (cO m) (nP m) mode (gI m 98 0)).1 ∧ (∀ j, j < 16 → gI M 106 j = (fiS (gI m 96) (nrm m) o (cO m) (nP m) mode (gI m 98 0)).2 j) ∧ (∀ j, j < nP m → gI M 107 j = (fin (gI m 96) (nrm m) o (cO m) (nP m) mode (gI m 98 0)).2.2 j) := by
  obtain ⟨M, e1, e2, e3⟩ := m_lays hN h ho
  have hM := h.core e2.core
  obtain ⟨M', a1, a2, a6, a3, a4, a5⟩ := m_fundsAll hN mode (gI m 98 0) hM e3
  rw [e2.v.1, e2.v.p] at a3 a4 a5
  refine ⟨M', ?_, e2.trans a2, a3, a4, a5⟩
  unfold f_X10_pays
  rw [b1_of e1, show gI M 98 0 = gI m 98 0 by rw [e2.v.2], b1_of a1]
theorem c_mode (N : Nat) (v : Int32) (m : Mem) : f_X9_checkMode N v m = if inR v 3 = true then some (.inl (), m) else some (.inr 1, m) := by
  unfold f_X9_checkMode B_X9_checkMode_9
  have := rng_c (v := v) (n := 3) (by omega) (some ((.inr 1 : Unit ⊕ Nat), m)) (some ((.inl () : Unit ⊕ Nat), m))
  rw [← this]
  by_cases h1 : v < 0
  · rw [if_pos h1, if_pos h1]
  · rw [if_neg h1, if_neg h1]
    obtain ⟨j, hj, rfl⟩ := nI_of h1
    by_cases h2 : j < 3
    · rw [if_pos (show nI j ≤ (2 : Int32) from nI_le (b := 2) (by omega) (by omega)), if_pos (nI_lt h2 (by omega))]
    · rw [if_neg (show ¬ nI j ≤ (2 : Int32) from nI_ge (a := 2) (by omega) (by omega)), if_neg (nI_nlt (by omega) (by omega))]
theorem m_mode (N : Nat) (v : Int32) (m : Mem) : f_X10_isMode N v m = if inR v 3 = true then some (1, sI m 95 0 0) else some (0, sI m 95 0 1) := by
  have h := rng_m N (v := v) (n := 3) (by omega) m
  unfold f_X10_isMode B_X10_isMode_15
  rw [b2_of (show f_X10_in N v 0 2 m = _ from h)]
  by_cases hi : inR v 3 = true
  · rw [if_pos hi, if_pos hi, if_neg (by decide), wr_eq]
    exact if_pos (show gI (sI m 95 0 0) 95 0 = 0 by rw [gI_sI, if_pos ⟨rfl, rfl⟩])
  · rw [if_neg hi, if_neg hi, if_pos rfl, wr_eq]
    exact if_neg (show ¬ gI (sI m 95 0 1) 95 0 = 0 by rw [gI_sI, if_pos ⟨rfl, rfl⟩]; decide)
/-- an answer after the funding -/
theorem OpI.fun' {fl fm : Mem → Option (Int32 × Mem)} {m M Y : Mem} (h : Rel m) (u : FunE m M) {b : Int32} (h1 : fl m = some (0, sJ M 108 0 b.toInt64)) (h2 : fm (sJ M 108 0 b.toInt64) = some (b, Y)) (hy : YE (Y0 M b.toInt64 0) Y) : OpI fl fm m :=
  ⟨0, _, b, _, h1, h2, by rw [hy.2.1 0 (by omega) (by omega)]; unfold Y0; rw [gI_sI, if_pos ⟨rfl, rfl⟩], fun _ => by rw [hy.2.2.2.1]; unfold Y0; rw [gJ_sI, gJ_sJ, if_pos ⟨rfl, rfl⟩], (Y0.rel (h.core u.core) _ _).core hy.core⟩
/-- the model's funding behind the class's -/
theorem m_pays' {N : Nat} (hN : 17 < N) (mode : Int32) {m M : Mem} (h : Rel m) (u : FunE m M) {o : Nat → Nat} (ho : oOK (rn m) (bf m) (nQ m) o) (w : Int64) : ∃ Y, f_X10_pays N mode (Y0 M w 0) = some Y ∧ YE (Y0 M w 0) Y ∧ gI Y 95 22 = (fiS (gI m 96) (nrm m) o (cO m) (nP m) mode (gI m 98 0)).1 ∧ (∀ j, j < 16 → gI Y 106 j = (fiS (gI m 96) (nrm m) o (cO m) (nP m) mode (gI m 98 0)).2 j) ∧ (∀ j, j < nP m → gI Y 107 j = (fin (gI m 96) (nrm m) o (cO m) (nP m) mode (gI m 98 0)).2.2 j) := by
  have v0 := Y0.v M w 0
  have hY := Y0.rel (h.core u.core) w 0
  have := m_pays hN mode hY (o := o) (by rw [v0.zrn, v0.zbf, v0.q, u.v.zrn, u.v.zbf, u.v.q]; exact ho)
  rw [v0.1, v0.2, v0.znr, v0.zcO, v0.p, u.v.1, u.v.2, u.v.znr, u.v.zcO, u.v.p] at this
  exact this
theorem op_amount {N : Nat} (hN : 17 < N) : Op_amount N := by
  intro m hR a b
  have hQQ := hR.b.Q.2
  by_cases ha : inR a 3 = true
  · by_cases hb : inR b (nQ m) = true
    · obtain ⟨p, hp, rfl⟩ := inR_nI hb
      obtain ⟨M, o, e1, u, ho, e2, e3, e4⟩ := c_fund hN a hR
      obtain ⟨Y, y1, y2, y3, y4, y5⟩ := m_pays' hN a hR u ho ((fiS (gI m 96) (nrm m) o (cO m) (nP m) a (gI m 98 0)).2 p).toInt64
      refine OpI.fun' hR u (b := (fiS (gI m 96) (nrm m) o (cO m) (nP m) a (gI m 98 0)).2 p) ?_ ?_ y2
      · unfold f_L_amount f_X9_amount
        rw [x1_of (by rw [c_mode, if_pos ha]), x1_of (by rw [c_checkProposal N hR.b, if_pos hb]), b1_of e1, gd_t (inb_nI (by omega) (by omega)), nI_clamp (by omega), e3 p (by omega)]
        rfl
      · generalize ((fiS (gI m 96) (nrm m) o (cO m) (nP m) a (gI m 98 0)).2 p).toInt64 = w at *
        have hY := Y0.rel (hR.core u.core) w 0
        unfold f_X10_amount
        rw [b2_of (by rw [m_mode, if_pos ha]), if_neg (by decide)]
        change b2 (f_X10_isProposal N (nI p) (Y0 M w 0)) _ = _
        rw [b2_of (m_isProposal N hY.b (nI p)), (Y0.v M w 0).q, u.v.q, if_pos hb, if_neg (by decide), b1_of y1, gd_t (inb_nI (by omega) (by omega)), nI_clamp (by omega), y4 p (by omega)]
    · refine OpI.no hR (v := 2) (w := 0) (by decide) ?_ ?_ (Or.inr ⟨0, rfl⟩)
      · unfold f_L_amount f_X9_amount
        rw [x1_of (by rw [c_mode, if_pos ha]), x1_th (by rw [c_checkProposal N hR.b, if_neg hb])]
        rfl
      · have hR2 : Rel (sI m 95 0 0) := hR.core (Core.sI95 (by omega))
        unfold f_X10_amount
        rw [b2_of (by rw [m_mode, if_pos ha]), if_neg (by decide), b2_of (m_isProposal N hR2.b b), show nQ (sI m 95 0 0) = nQ m from rfl, if_neg hb, if_pos rfl]
        rfl
  · refine OpI.no hR (v := 1) (w := 0) (by decide) ?_ ?_ (Or.inl rfl)
    · unfold f_L_amount f_X9_amount
      rw [x1_th (by rw [c_mode, if_neg ha])]
      rfl
    · unfold f_X10_amount
      rw [b2_of (by rw [m_mode, if_neg ha]), if_pos rfl]
theorem op_left {N : Nat} (hN : 17 < N) : Op_left N := by
  intro m hR a b
  have hPP := hR.b.P.2
  by_cases ha : inR a 3 = true
  · by_cases hb : inR b (nP m) = true
    · obtain ⟨p, hp, rfl⟩ := inR_nI hb
      obtain ⟨M, o, e1, u, ho, e2, e3, e4⟩ := c_fund hN a hR
      obtain ⟨Y, y1, y2, y3, y4, y5⟩ := m_pays' hN a hR u ho ((fin (gI m 96) (nrm m) o (cO m) (nP m) a (gI m 98 0)).2.2 p).toInt64
      refine OpI.fun' hR u (b := (fin (gI m 96) (nrm m) o (cO m) (nP m) a (gI m 98 0)).2.2 p) ?_ ?_ y2
      · unfold f_L_left f_X9_left
        rw [x1_of (by rw [c_mode, if_pos ha]), x1_of (by rw [c_checkPanel N hR.b, if_pos hb]), b1_of e1, gd_t (inb_nI (by omega) (by omega)), nI_clamp (by omega), e4 p (by omega)]
        rfl
      · generalize ((fin (gI m 96) (nrm m) o (cO m) (nP m) a (gI m 98 0)).2.2 p).toInt64 = w at *
        have hY := Y0.rel (hR.core u.core) w 0
        unfold f_X10_left
        rw [b2_of (by rw [m_mode, if_pos ha]), if_neg (by decide)]
        change b2 (f_X10_isPanel N (nI p) (Y0 M w 0)) _ = _
        rw [b2_of (m_isPanel N hY.b (nI p)), (Y0.v M w 0).p, u.v.p, if_pos hb, if_neg (by decide), b1_of y1, gd_t (inb_nI (by omega) (by omega)), nI_clamp (by omega), y5 p (by omega)]
    · refine OpI.no hR (v := 2) (w := 0) (by decide) ?_ ?_ (Or.inr ⟨0, rfl⟩)
      · unfold f_L_left f_X9_left
        rw [x1_of (by rw [c_mode, if_pos ha]), x1_th (by rw [c_checkPanel N hR.b, if_neg hb])]
        rfl
      · have hR2 : Rel (sI m 95 0 0) := hR.core (Core.sI95 (by omega))
        unfold f_X10_left
        rw [b2_of (by rw [m_mode, if_pos ha]), if_neg (by decide), b2_of (m_isPanel N hR2.b b), show nP (sI m 95 0 0) = nP m from rfl, if_neg hb, if_pos rfl]
        rfl
  · refine OpI.no hR (v := 1) (w := 0) (by decide) ?_ ?_ (Or.inl rfl)
    · unfold f_L_left f_X9_left
      rw [x1_th (by rw [c_mode, if_neg ha])]
      rfl
    · unfold f_X10_left
      rw [b2_of (by rw [m_mode, if_neg ha]), if_pos rfl]
theorem op_poolLeft {N : Nat} (hN : 17 < N) : Op_poolLeft N := by
  intro m hR a
  by_cases ha : inR a 3 = true
  · obtain ⟨M, o, e1, u, ho, e2, e3, e4⟩ := c_fund hN a hR
    obtain ⟨Y, y1, y2, y3, y4, y5⟩ := m_pays' hN a hR u ho ((fiS (gI m 96) (nrm m) o (cO m) (nP m) a (gI m 98 0)).1).toInt64
    refine OpI.fun' hR u (b := (fiS (gI m 96) (nrm m) o (cO m) (nP m) a (gI m 98 0)).1) ?_ ?_ y2
    · unfold f_L_poolLeft f_X9_poolLeft
      rw [x1_of (by rw [c_mode, if_pos ha]), b1_of e1, e2]
      rfl
    · unfold f_X10_poolLeft
      rw [b2_of (by rw [m_mode, if_pos ha]), if_neg (by decide)]
      change b1 (f_X10_pays N a (Y0 M _ 0)) _ = _
      rw [b1_of y1, y3]
  · refine OpI.no hR (v := 1) (w := 0) (by decide) ?_ ?_ (Or.inl rfl)
    · unfold f_L_poolLeft f_X9_poolLeft
      rw [x1_th (by rw [c_mode, if_neg ha])]
      rfl
    · unfold f_X10_poolLeft
      rw [b2_of (by rw [m_mode, if_neg ha]), if_pos rfl]
theorem wn_q {m : Mem} (h : Rel m) {o : Nat → Nat} (ho : oOK (rn m) (bf m) (nQ m) o) (mode line : Int32) : wn (fiS (gI m 96) (nrm m) o (cO m) (nP m) mode line).2 16 = wn (fiS (gI m 96) (nrm m) o (cO m) (nP m) mode line).2 (nQ m) := by
  have hQ := h.b.Q.2
  have := wn_more (sh := (fiS (gI m 96) (nrm m) o (cO m) (nP m) mode line).2) (a := nQ m) (16 - nQ m) (fun j h1 h2 => fiS_out (fun k hk => by
    have := (ho k hk).1
    omega))
  rw [show nQ m + (16 - nQ m) = 16 by omega] at this
  exact this
theorem op_funded {N : Nat} (hN : 17 < N) : Op_funded N := by
  intro m hR a
  have hQ := hR.b.Q.2
  by_cases ha : inR a 3 = true
  · obtain ⟨M, o, e1, u, ho, e2, e3, e4⟩ := c_fund hN a hR
    have hM := hR.core u.core
    generalize hw : (nI (wn (fiS (gI m 96) (nrm m) o (cO m) (nP m) a (gI m 98 0)).2 16)).toInt64 = w
    obtain ⟨Y, y1, y2, y3, y4, y5⟩ := m_pays' hN a hR u ho w
    subst hw
    refine OpI.fun' hR u (b := nI (wn (fiS (gI m 96) (nrm m) o (cO m) (nP m) a (gI m 98 0)).2 16)) ?_ ?_ y2
    · unfold f_L_funded f_X9_funded
      rw [x1_of (by rw [c_mode, if_pos ha]), b1_of e1, gd_t (st_k hM.b.s), hM.b.cQ, u.v.q, b2_of (c_winners (by omega) hQ e3), wn_q hR ho]
      rfl
    · unfold f_X10_funded
      rw [b2_of (by rw [m_mode, if_pos ha]), if_neg (by decide)]
      change b1 (f_X10_pays N a (Y0 M _ 0)) _ = _
      rw [b1_of y1, b2_of (m_fundedNow (by omega) y4)]
  · refine OpI.no hR (v := 1) (w := 0) (by decide) ?_ ?_ (Or.inl rfl)
    · unfold f_L_funded f_X9_funded
      rw [x1_th (by rw [c_mode, if_neg ha])]
      rfl
    · unfold f_X10_funded
      rw [b2_of (by rw [m_mode, if_neg ha]), if_pos rfl]
