/-! CONFLICTS, FITS, MATCHES -/
theorem RelB.rowR {m : Mem} (h : RelB m) {r : Nat} (hr : r < nR m) : gI m (gR m 0 7 + 2) r = gI m 96 (11 + 4 * r) ∧ gI m (gR m 0 7 + 3) r = gI m 96 (12 + 4 * r) ∧ gI m (gR m 0 7 + 4) r = gI m 96 (13 + 4 * r) ∧ gI m (gR m 0 7 + 5) r = gI m 96 (14 + 4 * r) := h.2.2.1.2.2.2.2.2.2.2.2.1 r hr
theorem RelB.rowP {m : Mem} (h : RelB m) {p : Nat} (hp : p < nQ m) : gI m (gR m 0 7 + 7) p = gI m 96 (59 + 5 * p) ∧ gI m (gR m 0 7 + 8) p = gI m 96 (60 + 5 * p) ∧ gI m (gR m 0 7 + 9) p = gI m 96 (61 + 5 * p) ∧ gI m (gR m 0 7 + 10) p = gI m 96 (62 + 5 * p) ∧ gI m (gR m 0 7 + 11) p = gI m 96 (63 + 5 * p) := h.2.2.1.2.2.2.2.2.2.2.2.2.2 p hp
theorem RelB.told {m : Mem} (h : RelB m) {k : Nat} (hk : k < 151) : 0 ≤ (gI m 96 k).toInt := h.2.1.1 k hk
theorem m_reviewer (N : Nat) {r k : Nat} (hr : r < 12) (hk : k < 4) (m : Mem) : f_X10_reviewer N (nI r) (nI k) m = some (gI m 96 (11 + k + 4 * r), m) := by
  unfold f_X10_reviewer
  rw [show ((11 : Int32) + (4 : Int32) * nI r) + nI k = nI (11 + k + 4 * r) by rw [show (4 : Int32) = nI 4 from rfl, show (11 : Int32) = nI 11 from rfl, nI_mul, nI_add, nI_add]; congr 1; omega, gd_t (inb_nI (by omega) (by omega)), nI_clamp (by omega)]
theorem m_proposal (N : Nat) {p k : Nat} (hp : p < 16) (hk : k < 5) (m : Mem) : f_X10_proposal N (nI p) (nI k) m = some (gI m 96 (59 + k + 5 * p), m) := by
  unfold f_X10_proposal
  rw [show ((59 : Int32) + (5 : Int32) * nI p) + nI k = nI (59 + k + 5 * p) by rw [show (5 : Int32) = nI 5 from rfl, show (59 : Int32) = nI 59 from rfl, nI_mul, nI_add, nI_add]; congr 1; omega, gd_t (inb_nI (by omega) (by omega)), nI_clamp (by omega)]
def conf (m : Mem) (r p : Nat) : Bool := decide (gI m 96 (12 + 4 * r) = gI m 96 (60 + 5 * p)) || (vN (gI m 98 (2 + r))).testBit p
def fit (m : Mem) (r p : Nat) : Bool := decide (gI m 96 (11 + 4 * r) = gI m 96 (59 + 5 * p)) && !conf m r p
def matN (x t : Nat) : Nat := if x.testBit t then 2 else if x.testBit (t + 1) || (decide (0 < t) && x.testBit (t - 1)) then 1 else 0
def mat (m : Mem) (r p : Nat) : Nat := matN (vN (gI m 96 (14 + 4 * r))) (vN (gI m 96 (61 + 5 * p)))
theorem m_conf (N : Nat) {m : Mem} (h : RelB m) {r p : Nat} (hr : r < 12) (hp : p < 16) : f_X10_hasConflict N (nI r) (nI p) m = some (if conf m r p = true then 1 else 0, m) := by
  unfold f_X10_hasConflict B_X10_hasConflict_30
  rw [show (1 : Int32) = nI 1 from rfl, b2_of (m_reviewer N hr (by omega) m), b2_of (m_proposal N hp (by omega) m)]
  unfold conf
  by_cases he : gI m 96 (11 + 1 + 4 * r) = gI m 96 (59 + 1 + 5 * p)
  · rw [if_pos he]
    simp only [show gI m 96 (12 + 4 * r) = gI m 96 (60 + 5 * p) from he, decide_true, Bool.true_or, if_true]
  · rw [if_neg he, show (2 : Int32) + nI r = nI (2 + r) from nI_add 2 r, gd_t (inb_nI (by omega) (by omega)), nI_clamp (by omega), b2_of (m_has' N (h.2.2.2.1 _ (by omega)) (by omega) m), decide_eq_false (show ¬ gI m 96 (12 + 4 * r) = gI m 96 (60 + 5 * p) from he), Bool.false_or]
    cases hb : (vN (gI m 98 (2 + r))).testBit p <;> rfl
theorem c_conf (N : Nat) {m : Mem} (h : RelB m) {r p : Nat} (hr : r < nR m) (hp : p < nQ m) (hd : gI m 5 r = gI m 98 (2 + r)) : f_X9_hasConflict N (gR m 0 7) (nI r) (nI p) m = some (if conf m r p = true then 1 else 0, m) := by
  have hR := h.R.2
  have hQ := h.Q.2
  unfold f_X9_hasConflict B_X9_hasConflict_24
  rw [gd_t (st_k h.s), gd_t (st_ok h.s (by omega) (by omega) (show r < 12 by omega)), gd_t (st_ok h.s (by omega) (by omega) (show p < 16 by omega)), st_rt h.s (by omega) (by omega), st_rt h.s (by omega) (by omega), nI_clamp (by omega), nI_clamp (by omega), (h.rowR hr).2.1, (h.rowP hp).2.1]
  unfold conf
  by_cases he : gI m 96 (12 + 4 * r) = gI m 96 (60 + 5 * p)
  · rw [if_pos he]
    simp only [he, decide_true, Bool.true_or, if_true]
  · rw [if_neg he, b2_of (c_isDeclared N (by omega) (by omega) m (by rw [hd]; exact h.2.2.2.1 _ (by omega))), decide_eq_false he, Bool.false_or, hd]
    cases hb : (vN (gI m 98 (2 + r))).testBit p <;> rfl
theorem m_fit (N : Nat) {m : Mem} (h : RelB m) {r p : Nat} (hr : r < 12) (hp : p < 16) : f_X10_fits N (nI r) (nI p) m = some (if fit m r p = true then 1 else 0, m) := by
  unfold f_X10_fits B_X10_fits_28
  rw [show (0 : Int32) = nI 0 from rfl, b2_of (m_reviewer N hr (by omega) m), b2_of (m_proposal N hp (by omega) m)]
  unfold fit
  by_cases he : gI m 96 (11 + 0 + 4 * r) = gI m 96 (59 + 0 + 5 * p)
  · rw [if_pos he, b2_of (m_conf N h hr hp), decide_eq_true (show gI m 96 (11 + 4 * r) = gI m 96 (59 + 5 * p) from he), Bool.true_and]
    cases conf m r p <;> rfl
  · rw [if_neg he, decide_eq_false (show ¬ gI m 96 (11 + 4 * r) = gI m 96 (59 + 5 * p) from he), Bool.false_and]
    rfl
theorem c_fit (N : Nat) {m : Mem} (h : RelB m) {r p : Nat} (hr : r < nR m) (hp : p < nQ m) (hd : gI m 5 r = gI m 98 (2 + r)) : f_X9_fits N (gR m 0 7) (nI r) (nI p) m = some (if fit m r p = true then 1 else 0, m) := by
  have hR := h.R.2
  have hQ := h.Q.2
  unfold f_X9_fits B_X9_fits_29
  rw [gd_t (st_k h.s), gd_t (st_ok h.s (by omega) (by omega) (show r < 12 by omega)), gd_t (st_ok h.s (by omega) (by omega) (show p < 16 by omega)), st_rt h.s (by omega) (by omega), st_rt h.s (by omega) (by omega), nI_clamp (by omega), nI_clamp (by omega), (h.rowR hr).1, (h.rowP hp).1]
  unfold fit
  by_cases he : gI m 96 (11 + 4 * r) = gI m 96 (59 + 5 * p)
  · rw [if_pos he, b2_of (c_conf N h hr hp hd), decide_eq_true he, Bool.true_and]
    cases conf m r p <;> rfl
  · rw [if_neg he, decide_eq_false he, Bool.false_and]
    rfl
theorem mat_tab : ∀ t, t < 8 → ∀ x, x < 256 → (((x &&& 2 ^ t = 0) = (x.testBit t = false)) ∧ ((x &&& (2 ^ (t + 1) ||| 2 ^ t / 2) = 0) = ((x.testBit (t + 1) || (decide (0 < t) && x.testBit (t - 1))) = false))) := by decide +kernel
theorem mat_m : ∀ t, t < 8 → (((1 : Int32) <<< (nI t &&& 31)) <<< ((1 : Int32) &&& 31)) ||| (((1 : Int32) <<< (nI t &&& 31)) >>> ((1 : Int32) &&& 31)) = nI (2 ^ (t + 1) ||| 2 ^ t / 2) := by decide +kernel
theorem RelB.topic {m : Mem} (h : RelB m) {p : Nat} (hp : p < nQ m) : vN (gI m 96 (61 + 5 * p)) ≤ 7 ∧ gI m 96 (61 + 5 * p) = nI (vN (gI m 96 (61 + 5 * p))) := ⟨(h.2.1.2.2.2.2.2.2.2.2.2.2.1 p hp).2.2.1, vN_eq (h.told (by have := h.Q.2; omega))⟩
theorem RelB.topics {m : Mem} (h : RelB m) {r : Nat} (hr : r < nR m) : vN (gI m 96 (14 + 4 * r)) < 256 ∧ gI m 96 (14 + 4 * r) = nI (vN (gI m 96 (14 + 4 * r))) := ⟨(h.2.1.2.2.2.2.2.2.2.2.2.1 r hr).2.2.2, vN_eq (h.told (by have := h.R.2; omega))⟩
theorem c_mat (N : Nat) {m : Mem} (h : RelB m) {r p : Nat} (hr : r < nR m) (hp : p < nQ m) : f_X6_matchOf N (gR m 0 7) (nI r) (nI p) m = some (nI (mat m r p), m) := by
  have hR := h.R.2
  have hQ := h.Q.2
  obtain ⟨t1, t2⟩ := h.topic hp
  obtain ⟨x1, x2⟩ := h.topics hr
  unfold f_X6_matchOf
  rw [gd_t (st_k h.s), gd_t (st_ok h.s (by omega) (by omega) (show p < 16 by omega)), gd_t (st_ok h.s (by omega) (by omega) (show r < 12 by omega)), st_rt h.s (by omega) (by omega), st_rt h.s (by omega) (by omega), nI_clamp (by omega), nI_clamp (by omega), (h.rowR hr).2.2.2, (h.rowP hp).2.2.1]
  unfold mat matN
  generalize hx : vN (gI m 96 (14 + 4 * r)) = x at *
  generalize ht : vN (gI m 96 (61 + 5 * p)) = t at *
  obtain ⟨q1, q2⟩ := mat_tab t (by omega) x (by omega)
  have lx : ∀ y, x &&& y < 2 ^ 31 := fun y => Nat.lt_of_le_of_lt Nat.and_le_left (by omega)
  have z1 : (nI (x &&& 2 ^ t) = 0) ↔ x.testBit t = false := by rw [show (0 : Int32) = nI 0 from rfl, nI_eq (lx _) (by omega), q1]
  have z2 : (nI (x &&& (2 ^ (t + 1) ||| 2 ^ t / 2)) = 0) ↔ (x.testBit (t + 1) || (decide (0 < t) && x.testBit (t - 1))) = false := by rw [show (0 : Int32) = nI 0 from rfl, nI_eq (lx _) (by omega), q2]
  rw [t2, x2, mat_m t (by omega), shl1 t (by omega), nx_and, nx_and]
  cases hb : x.testBit t
  · rw [if_pos (z1.mpr hb)]
    cases hc : (x.testBit (t + 1) || (decide (0 < t) && x.testBit (t - 1)))
    · rw [if_pos (z2.mpr hc)]
      rfl
    · rw [if_neg (fun h => by rw [z2.mp h] at hc; cases hc)]
      rfl
  · rw [if_neg (fun h => by rw [z1.mp h] at hb; cases hb)]
    rfl
theorem m_mat (N : Nat) {m : Mem} (h : RelB m) {r p : Nat} (hr : r < nR m) (hp : p < nQ m) : f_X10_matches N (nI r) (nI p) m = some (nI (mat m r p), m) := by
  have hR := h.R.2
  have hQ := h.Q.2
  obtain ⟨t1, t2⟩ := h.topic hp
  obtain ⟨x1, x2⟩ := h.topics hr
  unfold f_X10_matches B_X10_matches_52 B_X10_matches_56
  rw [show (2 : Int32) = nI 2 from rfl, show (3 : Int32) = nI 3 from rfl, b2_of (m_proposal N (by omega) (by omega) m), b2_of (m_reviewer N (by omega) (by omega) m)]
  unfold mat matN
  rw [show gI m 96 (59 + 2 + 5 * p) = gI m 96 (61 + 5 * p) from rfl, show gI m 96 (11 + 3 + 4 * r) = gI m 96 (14 + 4 * r) from rfl]
  generalize hx : vN (gI m 96 (14 + 4 * r)) = x at *
  generalize ht : vN (gI m 96 (61 + 5 * p)) = t at *
  rw [t2, x2, b2_of (m_has N (by omega) m)]
  cases hb : x.testBit t
  · rw [if_pos (by rfl), nI_1, b2_of (m_has N (by omega) m)]
    cases hc : x.testBit (t + 1)
    · rw [if_pos (by rfl)]
      by_cases h0 : t = 0
      · subst h0
        rfl
      · rw [if_neg (nI_nle (by omega) (by omega))]
        obtain ⟨u, rfl⟩ : ∃ u, t = u + 1 := ⟨t - 1, by omega⟩
        rw [nI_pred, b2_of (m_has N (by omega) m)]
        simp only [Nat.add_sub_cancel, Nat.zero_lt_succ, decide_true, Bool.true_and, Bool.false_or]
        cases hd : x.testBit u <;> rfl
    · rfl
  · rfl
theorem Rel.de {m : Mem} (h : Rel m) {r : Nat} (hr : r < 12) : gI m 5 r = gI m 98 (2 + r) := (h.st.2.2.2.2.2.1 r hr).1
/-- a refusal on both sides, nothing else written -/
theorem OpI.no {fl fm : Mem → Option (Int32 × Mem)} {m : Mem} (h : Rel m) {v w : Int32} {m' : Mem} (hv : ¬ v = 0) (h1 : fl m = some (v, m)) (h2 : fm m = some (w, m')) (h3 : m' = sI m 95 0 v ∨ ∃ u, m' = sI (sI m 95 0 u) 95 0 v) : OpI fl fm m := by
  rcases h3 with rfl | ⟨u, rfl⟩
  · exact ⟨v, m, w, _, h1, h2, by rw [gI_sI, if_pos ⟨rfl, rfl⟩], fun h => absurd h hv, h.core (Core.sI95 (by omega))⟩
  · exact ⟨v, m, w, _, h1, h2, by rw [gI_sI, if_pos ⟨rfl, rfl⟩], fun h => absurd h hv, (h.core (Core.sI95 (by omega))).core (Core.sI95 (by omega))⟩
theorem OpZ.no {fl fm : Mem → Option (Int32 × Mem)} {m : Mem} (h : Rel m) {v w : Int32} {m' : Mem} (hv : ¬ v = 0) (h1 : fl m = some (v, m)) (h2 : fm m = some (w, m')) (h3 : m' = sI m 95 0 v ∨ ∃ u, m' = sI (sI m 95 0 u) 95 0 v) : OpZ fl fm m := by
  rcases h3 with rfl | ⟨u, rfl⟩
  · exact ⟨v, m, w, _, h1, h2, by rw [gI_sI, if_pos ⟨rfl, rfl⟩], fun h => absurd h hv, h.core (Core.sI95 (by omega))⟩
  · exact ⟨v, m, w, _, h1, h2, by rw [gI_sI, if_pos ⟨rfl, rfl⟩], fun h => absurd h hv, (h.core (Core.sI95 (by omega))).core (Core.sI95 (by omega))⟩
/-- an answer of a method that reads only -/
theorem OpI.read {fl fm : Mem → Option (Int32 × Mem)} {m : Mem} (h : Rel m) {b : Int32} (h1 : fl m = some (0, sJ m 108 0 b.toInt64)) (h2 : fm (sJ m 108 0 b.toInt64) = some (b, sI (sJ m 108 0 b.toInt64) 95 0 0)) : OpI fl fm m :=
  ⟨0, _, b, _, h1, h2, by rw [gI_sI, if_pos ⟨rfl, rfl⟩], fun _ => by rw [gJ_sI, gJ_sJ, if_pos ⟨rfl, rfl⟩], (h.core Core.sJ').core (Core.sI95 (by omega))⟩
theorem OpZ.read {fl fm : Mem → Option (Int32 × Mem)} {m : Mem} (h : Rel m) {b : Int32} {v : Int64} (hv : v = if b = 0 then 0 else 1) (h1 : fl m = some (0, sJ m 108 0 v)) (h2 : fm (sJ m 108 0 v) = some (b, sI (sJ m 108 0 v) 95 0 0)) : OpZ fl fm m :=
  ⟨0, _, b, _, h1, h2, by rw [gI_sI, if_pos ⟨rfl, rfl⟩], fun _ => by rw [gJ_sI, gJ_sJ, if_pos ⟨rfl, rfl⟩]; exact hv, (h.core Core.sJ').core (Core.sI95 (by omega))⟩
theorem op_match (N : Nat) : Op_match N := by
  intro m hR a b
  by_cases hab : inR a (nR m) = true ∧ inR b (nQ m) = true
  · obtain ⟨r, hr, rfl⟩ := inR_nI hab.1
    obtain ⟨p, hp, rfl⟩ := inR_nI hab.2
    have hR2 : Rel (sI (sJ m 108 0 (nI (mat m r p)).toInt64) 95 0 0) := (hR.core Core.sJ').core (Core.sI95 (by omega))
    refine OpI.read hR (b := nI (mat m r p)) ?_ ?_
    · unfold f_L_match f_X9_match
      rw [x1_of (c_pair_ok N hR.b hab.1 hab.2), gd_t (st_k hR.b.s), b2_of (c_mat N hR.b hr hp)]
      rfl
    · unfold f_X10_match
      rw [b2_of (m_both_ok N (hR.core Core.sJ').b hab.1 hab.2), if_neg (by decide), b2_of (m_mat N hR2.b (show r < nR _ from hr) (show p < nQ _ from hp))]
      rfl
  · refine OpI.no hR (v := 1) (w := 0) (by decide) ?_ ?_ (Or.inl rfl)
    · unfold f_L_match f_X9_match
      rw [x1_th (c_pair_no N hR.b hab)]
      rfl
    · unfold f_X10_match
      rw [b2_of (m_both_no N hR.b hab)]
      rfl
theorem op_isConflict (N : Nat) : Op_isConflict N := by
  intro m hR a b
  by_cases hab : inR a (nR m) = true ∧ inR b (nQ m) = true
  · obtain ⟨r, hr, rfl⟩ := inR_nI hab.1
    obtain ⟨p, hp, rfl⟩ := inR_nI hab.2
    have hRR := hR.b.R.2
    have hQQ := hR.b.Q.2
    refine OpZ.read hR (b := if conf m r p = true then 1 else 0) (v := if conf m r p = true then 1 else 0) ?_ ?_ ?_
    · cases conf m r p <;> rfl
    · unfold f_L_isConflict f_X9_isConflict
      rw [x1_of (c_pair_ok N hR.b hab.1 hab.2), b2_of (c_conf N hR.b hr hp (hR.de (by omega))), gd_t isB_if]
      cases conf m r p <;> rfl
    · have hR2 : Rel (sI (sJ m 108 0 (if conf m r p = true then 1 else 0)) 95 0 0) := (hR.core Core.sJ').core (Core.sI95 (by omega))
      unfold f_X10_isConflict
      rw [b2_of (m_both_ok N (hR.core Core.sJ').b hab.1 hab.2), if_neg (by decide), b2_of (m_conf N hR2.b (by omega) (by omega))]
      show _ = some ((if conf m r p = true then 1 else 0), _)
      rw [show conf (sI (sJ m 108 0 (if conf m r p = true then 1 else 0)) 95 0 0) r p = conf m r p from rfl]
      cases conf m r p <;> rfl
  · refine OpZ.no hR (v := 1) (w := 0) (by decide) ?_ ?_ (Or.inl rfl)
    · unfold f_L_isConflict f_X9_isConflict
      rw [x1_th (c_pair_no N hR.b hab)]
      rfl
    · unfold f_X10_isConflict
      rw [b2_of (m_both_no N hR.b hab)]
      rfl
