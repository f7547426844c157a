theorem RelB.cap {m : Mem} (h : RelB m) {r : Nat} (hr : r < nR m) : gI m 96 (13 + 4 * r) = nI (vN (gI m 96 (13 + 4 * r))) ∧ vN (gI m 96 (13 + 4 * r)) ≤ 10 := ⟨vN_eq (h.told (by have := h.R.2; omega)), (h.2.1.2.2.2.2.2.2.2.2.2.1 r hr).2.2.1.2⟩
theorem RelB.per {m : Mem} (h : RelB m) : gI m 96 3 = nI (vN (gI m 96 3)) ∧ vN (gI m 96 3) ≤ 4 ∧ 1 ≤ vN (gI m 96 3) ∧ gI m (gR m 0 7) 14 = gI m 96 3 := ⟨vN_eq (h.told (by omega)), h.2.1.2.2.2.2.1.2, h.2.1.2.2.2.2.1.1, h.2.2.1.2.2.2.1⟩
def takeC (m : Mem) (r p : Nat) : Bool := decide (gI m 4 (16 * r + p) = 0) && decide (cnt (fun q => decide (¬ gI m 4 (16 * r + q) = 0)) 16 < vN (gI m 96 (13 + 4 * r)))
theorem c_canTake {N : Nat} (hN : 16 < N) {m : Mem} (h : RelB m) {r p : Nat} (hr : r < nR m) (hp : p < 16) : f_X9_canTake N (nI r) (nI p) m = some (if takeC m r p = true then 1 else 0, m) := by
  have hR := h.R.2
  obtain ⟨q1, q2⟩ := h.cap hr
  unfold f_X9_canTake B_X9_canTake_36 takeC
  rw [b2_of (c_hasReview N (by omega) hp m)]
  by_cases hz : gI m 4 (16 * r + p) = 0
  · rw [if_pos hz, if_pos rfl, b2_of (c_revR hN (by omega) m), gd_t (st_k h.s), gd_t (st_ok h.s (by omega) (by omega) (show r < 12 by omega)), st_rt h.s (by omega) (by omega), nI_clamp (by omega), show gI m (gR m 0 7 + (6 - 2)) r = gI m 96 (13 + 4 * r) from (h.rowR hr).2.2.1, q1, decide_eq_true hz, Bool.true_and, vN_nI (by omega)]
    have hc := cnt_le (fun q => decide (¬ gI m 4 (16 * r + q) = 0)) 16
    by_cases hl : cnt (fun q => decide (¬ gI m 4 (16 * r + q) = 0)) 16 < vN (gI m 96 (13 + 4 * r))
    · rw [if_neg (nI_ge hl (by omega)), decide_eq_true hl]
      rfl
    · rw [if_pos (nI_le (by omega) (by omega)), decide_eq_false hl]
      rfl
  · rw [if_neg hz, if_neg (by decide), decide_eq_false hz]
    rfl
theorem Rel.put1 {m : Mem} (hR : Rel m) {r p : Nat} (hr : r < nR m) (hp : p < nQ m) (hz : gI m 4 (16 * r + p) = 0) : RelT (gI m 96) (gI m 3 2) (gI m 3 3) (upN (gI m 4) (16 * r + p) (-1)) (gI m 5) (upN (gI m 98) (14 + r) (nI (vN (gI m 98 (14 + r)) ||| 2 ^ p))) := by
  have hRR := hR.b.R.2
  have hQQ := hR.b.Q.2
  obtain ⟨w14, l14⟩ := hR.w14 (show r < 12 by omega)
  have h := hR.st.put (r0 := r) (p0 := p) hr hRR hp hQQ (c := -1) (s := 0) (or_lt l14 (show p < 16 by omega)) (fun q hq => by
    rw [or_tb]
    by_cases hpq : q = p
    · subst hpq
      simp
    · rw [if_neg hpq, decide_eq_false (show ¬ p = q by omega), Bool.or_false]) rfl (by decide)
  have hs := hR.scv (show r < 12 by omega) (show p < 16 by omega)
  rw [hz, if_neg (by decide)] at hs
  rw [show upN (upN (gI m 98) (14 + r) (nI (vN (gI m 98 (14 + r)) ||| 2 ^ p))) (26 + (16 * r + p)) 0 = upN (gI m 98) (14 + r) (nI (vN (gI m 98 (14 + r)) ||| 2 ^ p)) from funext (fun j => by
    by_cases hj : j = 26 + (16 * r + p)
    · rw [hj, upN_same, upN_ne _ _ (by omega), hs]
    · rw [upN_ne _ _ hj])] at h
  exact h
theorem op_assign {N : Nat} (hN : 3000 < N) : Op_assign N := by
  intro m hR a b
  by_cases hab : inR a (nR m) = true ∧ inR b (nQ m) = true
  · obtain ⟨r, hr, rfl⟩ := inR_nI hab.1
    obtain ⟨p, hp, rfl⟩ := inR_nI hab.2
    have hRR := hR.b.R.2
    have hQQ := hR.b.Q.2
    have hr12 : r < 12 := by omega
    have hp16 : p < 16 := by omega
    have hrv := hR.rv hr12 hp16
    have hR2 : Rel (sI m 95 0 0) := hR.core (Core.sI95 (by omega))
    obtain ⟨q1, q2⟩ := hR.b.cap hr
    obtain ⟨p1, p2, p3, p4⟩ := hR.b.per
    have c16 := cnt_le (vN (gI m 98 (14 + r))).testBit 16
    have cR := cnt_le (fun r => (vN (gI m 98 (14 + r))).testBit p) (nR m)
    have cC := hR.cntR hr12
    have cP := hR.cntP hp16
    cases hf : fit m r p
    · refine OpI.no hR (v := 2) (w := 0) (by decide) ?_ ?_ (Or.inr ⟨0, rfl⟩)
      · unfold f_L_assign f_X9_assign
        rw [x1_of (c_pair_ok N hR.b hab.1 hab.2), b2_of (c_fit N hR.b hr hp (hR.de hr12)), hf]
        rfl
      · unfold f_X10_assign
        rw [b2_of (m_both_ok N hR.b hab.1 hab.2), if_neg (by decide), b2_of (m_fit N hR2.b hr12 hp16), show fit (sI m 95 0 0) r p = false from hf]
        rfl
    · by_cases hall : takeC m r p = true ∧ cnt (fun r => (vN (gI m 98 (14 + r))).testBit p) (nR m) < vN (gI m 96 3)
      · have htk := hall.1
        unfold takeC at htk
        rw [Bool.and_eq_true, decide_eq_true_iff, decide_eq_true_iff] at htk
        have hz := htk.1
        have hcap := htk.2
        rw [cC] at hcap
        rw [decide_eq_false (by simp [hz])] at hrv
        obtain ⟨C, hC, eC⟩ := c_remember N hR.hist
        obtain ⟨w14, l14⟩ := hR.w14 hr12
        have hX : ∀ k, k ≠ 3 → k ≠ 4 → k ≠ 5 → gI (sI C 4 (16 * r + p) (-1)) k = gI C k := fun k _ q _ => sI_ne _ _ q
        generalize hX0 : sI C 4 (16 * r + p) (-1) = X at hX
        have rX : ∀ k j, gR X k j = gR C k j := fun k j => by rw [← hX0]; rfl
        generalize hb : nI (cnt (fun r => decide (¬ gI X 4 (16 * r + p) = 0)) 12) = bb
        obtain ⟨K, hK, eK⟩ := hR.kept hN eC hX bb.toInt64
        obtain ⟨xb1, xb2⟩ := hR.xb eC hX rX bb.toInt64
        have k98 : gI K 98 = gI m 98 := by rw [kx eK (by omega) (by omega), hX 98 (by omega) (by omega) (by omega), eC.k (by omega)]
        have x96 : ∀ j, gI (sJ X 108 0 bb.toInt64) 96 j = gI m 96 j := fun j => by rw [gI_sJ, hX 96 (by omega) (by omega) (by omega), eC.k (by omega)]
        have x98 : ∀ j, gI (sI (sJ X 108 0 bb.toInt64) 95 0 0) 98 j = gI m 98 j := fun j => by rw [gI_sI, if_neg (by omega), gI_sJ, hX 98 (by omega) (by omega) (by omega), eC.k (by omega)]
        have y96 : ∀ j, gI (sI (sJ X 108 0 bb.toInt64) 95 0 0) 96 j = gI m 96 j := fun j => by rw [gI_sI, if_neg (by omega)]; exact x96 j
        have yf : fit (sI (sJ X 108 0 bb.toInt64) 95 0 0) r p = true := by
          unfold fit conf
          rw [y96, y96, y96, y96, x98]
          exact hf
        have hor : gI K 98 (14 + r) ||| ((1 : Int32) <<< (nI p &&& 31)) = nI (vN (gI m 98 (14 + r)) ||| 2 ^ p) := by
          have := or_bit (k := vN (gI m 98 (14 + r))) (j := p) (by omega)
          rw [← w14] at this
          rw [k98]
          exact this
        have hR3 : Rel (sI K 98 (14 + r) (nI (vN (gI m 98 (14 + r)) ||| 2 ^ p))) := by
          refine hR.push' eC hX rX eK (fun k hk => sI_ne _ _ hk) (fun k b => rfl) (hR.put1 hr hp hz) ?_ ?_ ?_ ?_ ?_
          · rw [← hX0, gI_sI, if_neg (by omega), eC.k (by omega)]
          · rw [← hX0, gI_sI, if_neg (by omega), eC.k (by omega)]
          · rw [← hX0, upN_sI, eC.k (by omega)]
          · rw [← hX0, sI_ne _ _ (by omega), eC.k (by omega)]
          · rw [upN_sI, k98]
        have e4 : gI (sI K 98 (14 + r) (nI (vN (gI m 98 (14 + r)) ||| 2 ^ p))) 4 = gI X 4 := by rw [sI_ne _ _ (by omega), kx eK (by omega) (by omega)]
        have hcnt := hR3.cntP hp16
        rw [e4] at hcnt
        refine ⟨0, sJ X 108 0 bb.toInt64, bb, sI K 98 (14 + r) (nI (vN (gI m 98 (14 + r)) ||| 2 ^ p)), ?_, ?_, ?_, fun _ => ?_, hR3⟩
        · unfold f_L_assign f_X9_assign
          rw [x1_of (c_pair_ok N hR.b hab.1 hab.2), b2_of (c_fit N hR.b hr hp (hR.de hr12)), hf, if_neg (by decide), b2_of (c_canTake (by omega) hR.b hr hp16), hall.1, if_neg (by decide), b2_of (c_revP (by omega) hp16 m), gd_t (st_k hR.b.s), p4, p1, cP, if_pos (nI_lt (by exact hall.2) (by omega)), b1_of hC, b1_of (c_put N hr12 hp16 (-1) C), hX0, b2_of (c_revP (by omega) hp16 X), hb]
          rfl
        · unfold f_X10_assign
          have hbo : f_X10_areBoth N (nI r) (nI p) (sJ X 108 0 bb.toInt64) = some (1, sI (sJ X 108 0 bb.toInt64) 95 0 0) := m_both_ok N xb1 (by unfold nR; rw [x96]; exact hab.1) (by unfold nQ; rw [x96]; exact hab.2)
          rw [b2_of hbo, if_neg (by decide), b2_of (m_fit N xb2 hr12 hp16), yf, if_neg (by decide), b2_of (m_isReview N hr12 (by omega) _ (xb2.2.2.2.1 _ (by omega))), x98, hrv, if_pos (by rfl), b2_of (m_reviewsBy (by omega) xb2 hr12), show (2 : Int32) = nI 2 from rfl, b2_of (m_reviewer N hr12 (by omega) _), x98, y96, show 11 + 2 + 4 * r = 13 + 4 * r by omega, q1, if_neg (nI_ge (by exact hcap) (by omega))]
          have hro : f_X10_reviewsOf N (nI p) (sI (sJ X 108 0 bb.toInt64) 95 0 0) = some (nI (cnt (fun r => (vN (gI m 98 (14 + r))).testBit p) (nR m)), sI (sJ X 108 0 bb.toInt64) 95 0 0) := by
            have := m_reviewsOf (N := N) (by omega) (show p < 32 by omega) hRR (sI (sJ X 108 0 bb.toInt64) 95 0 0) (by rw [y96]; exact hR.b.R.1) (fun r hr => xb2.2.2.2.1 _ (by omega))
            simp only [x98] at this
            exact this
          have hro2 := m_reviewsOf (N := N) (by omega) (show p < 32 by omega) hR3.b.R.2 _ hR3.b.R.1 (fun r hr => hR3.b.2.2.2.1 _ (by omega))
          rw [b2_of hro, y96, p1, if_pos (nI_lt (by exact hall.2) (by omega)), b1_of hK, show (14 : Int32) + nI r = nI (14 + r) from nI_add 14 r, gd_t (inb_nI (by omega) (by omega)), nI_clamp (by omega), hor, wr_eq, b2_of hro2, ← hcnt, hb]
        · rw [gI_sI, if_neg (by omega), eK.k (by omega) (by omega), gI_sI, if_pos ⟨rfl, rfl⟩]
        · rw [gJ_sI, eK.j, gJ_sI, gJ_sJ, if_pos ⟨rfl, rfl⟩]
      · refine OpI.no hR (v := 3) (w := 0) (by decide) ?_ ?_ (Or.inr ⟨0, rfl⟩)
        · unfold f_L_assign f_X9_assign B_X9_assign_59
          rw [x1_of (c_pair_ok N hR.b hab.1 hab.2), b2_of (c_fit N hR.b hr hp (hR.de hr12)), hf, if_neg (by decide), b2_of (c_canTake (by omega) hR.b hr hp16)]
          cases htk : takeC m r p
          · rfl
          · rw [if_neg (by decide), b2_of (c_revP (by omega) hp16 m), gd_t (st_k hR.b.s), p4, p1, cP, if_neg (nI_nlt (by exact Nat.le_of_not_lt (fun hl => hall ⟨htk, hl⟩)) (by omega))]
            rfl
        · unfold f_X10_assign B_X10_assign_63
          rw [b2_of (m_both_ok N hR.b hab.1 hab.2), if_neg (by decide), b2_of (m_fit N hR2.b hr12 hp16), show fit (sI m 95 0 0) r p = true from hf, if_neg (by decide), b2_of (m_isReview N hr12 (by omega) _ (hR2.b.2.2.2.1 _ (by omega))), show (vN (gI (sI m 95 0 0) 98 (14 + r))).testBit p = (vN (gI m 98 (14 + r))).testBit p from rfl]
          cases hb : (vN (gI m 98 (14 + r))).testBit p
          · rw [if_pos (by rfl), b2_of (m_reviewsBy (by omega) hR2.b hr12), show (2 : Int32) = nI 2 from rfl, b2_of (m_reviewer N hr12 (by omega) _), show gI (sI m 95 0 0) 96 (11 + 2 + 4 * r) = gI m 96 (13 + 4 * r) from rfl, show cnt (vN (gI (sI m 95 0 0) 98 (14 + r))).testBit 16 = cnt (vN (gI m 98 (14 + r))).testBit 16 from rfl, q1]
            by_cases hl : cnt (vN (gI m 98 (14 + r))).testBit 16 < vN (gI m 96 (13 + 4 * r))
            · have hro : f_X10_reviewsOf N (nI p) (sI m 95 0 0) = some (nI (cnt (fun r => (vN (gI m 98 (14 + r))).testBit p) (nR m)), sI m 95 0 0) := m_reviewsOf (N := N) (by omega) (show p < 32 by omega) hRR (sI m 95 0 0) hR2.b.R.1 (fun r hr => hR2.b.2.2.2.1 _ (by omega))
              have htk : takeC m r p = true := by
                unfold takeC
                rw [hb] at hrv
                rw [cC, decide_eq_true hl, Bool.and_true]
                apply decide_eq_true
                exact Classical.byContradiction (fun hn => by rw [decide_eq_true hn] at hrv; cases hrv)
              rw [if_neg (nI_ge (by exact hl) (by omega)), b2_of hro, show gI (sI m 95 0 0) 96 3 = gI m 96 3 from rfl, p1, if_neg (nI_nlt (by exact Nat.le_of_not_lt (fun hl2 => hall ⟨htk, hl2⟩)) (Nat.lt_of_le_of_lt cR (by omega)))]
              rfl
            · rw [if_pos (nI_le (by omega) (by omega))]
              rfl
          · rfl
  · refine OpI.no hR (v := 1) (w := 0) (by decide) ?_ ?_ (Or.inl rfl)
    · unfold f_L_assign f_X9_assign
      rw [x1_th (c_pair_no N hR.b hab)]
      rfl
    · unfold f_X10_assign
      rw [b2_of (m_both_no N hR.b hab)]
      rfl
