/-! SETSCORE, ASSIGN -/
theorem op_setScore {N : Nat} (hN : 3000 < N) : Op_setScore N := by
  intro m hR a b v
  by_cases hab : inR a (nR m) = true ∧ inR b (nQ m) = true
  · obtain ⟨r, hr, rfl⟩ := inR_nI hab.1
    obtain ⟨p, hp, rfl⟩ := inR_nI hab.2
    have hRR := hR.b.R.2
    have hQQ := hR.b.Q.2
    have hr12 : r < 12 := by omega
    have hp16 : p < 16 := by omega
    have hrv := hR.rv hr12 hp16
    have hR2 : Rel (sI m 95 0 0) := hR.core (Core.sI95 (by omega))
    by_cases hv : v = -1 ∨ (1 ≤ v.toInt ∧ v.toInt ≤ 100)
    · -- a score that is allowed
      have cgo : f_X9_setScore N (nI r) (nI p) v m = B_X9_setScore_32 N (nI r) (nI p) v m := by
        unfold f_X9_setScore
        rw [x1_of (c_pair_ok N hR.b hab.1 hab.2)]
        by_cases h1 : v = -1
        · rw [if_pos h1]
        · have hv2 := hv.resolve_left h1
          rw [if_neg h1, if_neg (by rw [Int32.lt_iff_toInt_lt]; simp; omega), if_pos (by rw [Int32.le_iff_toInt_le]; simp; omega)]
      have mgo : ∀ m', RelB m' → inR (nI r) (nR m') = true → inR (nI p) (nQ m') = true → f_X10_setScore N (nI r) (nI p) v m' = B_X10_setScore_32 N (nI r) (nI p) v (sI m' 95 0 0) := by
        intro m' hm' q1 q2
        unfold f_X10_setScore
        rw [b2_of (m_both_ok N hm' q1 q2), if_neg (by decide)]
        by_cases h1 : v = -1
        · rw [if_pos h1]
        · have hv2 := hv.resolve_left h1
          rw [if_neg h1, in_eq, if_neg (by rw [Int32.lt_iff_toInt_lt]; simp; omega), if_neg (by rw [Int32.lt_iff_toInt_lt]; simp; omega), b2_of rfl, if_neg (by decide)]
      by_cases hz : gI m 4 (16 * r + p) = 0
      · rw [decide_eq_false (by simp [hz])] at hrv
        refine OpI.no hR (v := 3) (w := 0) (by decide) ?_ ?_ (Or.inr ⟨0, rfl⟩)
        · unfold f_L_setScore
          rw [cgo]
          unfold B_X9_setScore_32
          rw [x1_th (by rw [c_checkReview N hr12 hp16, if_pos hz])]
          rfl
        · rw [mgo m hR.b hab.1 hab.2]
          unfold B_X10_setScore_32
          rw [b2_of (m_isReview N hr12 (by omega) _ (hR2.b.2.2.2.1 _ (by omega))), show (vN (gI (sI m 95 0 0) 98 (14 + r))).testBit p = false from hrv, if_pos (by rfl)]
          rfl
      · rw [decide_eq_true hz] at hrv
        obtain ⟨C, hC, eC⟩ := c_remember N hR.hist
        obtain ⟨w14, l14⟩ := hR.w14 hr12
        have hX : ∀ k, k ≠ 3 → k ≠ 4 → k ≠ 5 → gI (sI C 4 (16 * r + p) v) k = gI C k := fun k _ q _ => sI_ne _ _ q
        generalize hX0 : sI C 4 (16 * r + p) v = X at hX
        have rX : ∀ k j, gR X k j = gR C k j := fun k j => by rw [← hX0]; rfl
        generalize hc : gI m 4 (16 * r + p) = c at *
        have hcb := hR.scb hr12 hp16
        have hsc := hR.scv hr12 hp16
        rw [hc] at hcb hsc
        obtain ⟨K, hK, eK⟩ := hR.kept hN eC hX c.toInt64
        obtain ⟨xb1, xb2⟩ := hR.xb eC hX rX c.toInt64
        have k98 : gI K 98 = gI m 98 := by rw [kx eK (by omega) (by omega), hX 98 (by omega) (by omega) (by omega), eC.k (by omega)]
        have x96 : ∀ j, gI (sJ X 108 0 c.toInt64) 96 j = gI m 96 j := fun j => by rw [gI_sJ, hX 96 (by omega) (by omega) (by omega), eC.k (by omega)]
        have x98 : ∀ j, gI (sI (sJ X 108 0 c.toInt64) 95 0 0) 98 j = gI m 98 j := fun j => by rw [gI_sI, if_neg (by omega), gI_sJ, hX 98 (by omega) (by omega) (by omega), eC.k (by omega)]
        generalize hs : (if v = -1 then (0 : Int32) else v) = s
        have hsv : s = if 0 < v then v else 0 := by
          rw [← hs]
          rcases hv with rfl | hv
          · rfl
          · rw [if_neg (fun e => by rw [e] at hv; exact absurd hv.1 (by decide)), if_pos (by rw [Int32.lt_iff_toInt_lt]; simp; omega)]
        have hvz : ¬ v = 0 := by
          rcases hv with rfl | hv
          · decide
          · intro e
            rw [e] at hv
            exact absurd hv.1 (by decide)
        refine ⟨0, sJ X 108 0 c.toInt64, c, sI K 98 (26 + (16 * r + p)) s, ?_, ?_, ?_, fun _ => ?_, ?_⟩
        · unfold f_L_setScore
          rw [cgo]
          unfold B_X9_setScore_32
          rw [x1_of (by rw [c_checkReview N hr12 hp16, if_neg (by rw [hc]; exact hz)]), b1_of hC, b2_of (c_scoreAt N hr12 hp16 C), b1_of (c_put N hr12 hp16 v C), eC.k (by omega), hc, hX0]
          rfl
        · rw [mgo _ xb1 (by unfold nR; rw [x96]; exact hab.1) (by unfold nQ; rw [x96]; exact hab.2)]
          have h82 : ∀ u, B_X10_setScore_82 N (if 0 < c then c else 0) u (((26 : Int32) + ((16 : Int32) * nI r)) + nI p) K = some (c, sI K 98 (26 + (16 * r + p)) u) := by
            intro u
            unfold B_X10_setScore_82
            rw [show ((26 : Int32) + (16 : Int32) * nI r) + nI p = nI (26 + (16 * r + p)) by rw [show (16 : Int32) = nI 16 from rfl, show (26 : Int32) = nI 26 from rfl, nI_mul, nI_add, nI_add, Nat.add_assoc], gd_t (inb_nI (by omega) (by omega)), nI_clamp (by omega), wr_eq, b2_of (m_orNone N hz hcb.1)]
          unfold B_X10_setScore_32
          rw [b2_of (m_isReview N hr12 (by omega) _ (xb2.2.2.2.1 _ (by omega))), x98, hrv, if_neg (by decide), b1_of hK, b2_of (m_score N hr12 hp16 K), k98, hsc, h82, h82, ← hs]
          by_cases h1 : v = -1
          · rw [if_pos h1, if_pos h1]
          · rw [if_neg h1, if_neg h1]
        · rw [gI_sI, if_neg (by omega), eK.k (by omega) (by omega), gI_sI, if_pos ⟨rfl, rfl⟩]
        · rw [gJ_sI, eK.j, gJ_sI, gJ_sJ, if_pos ⟨rfl, rfl⟩]
        · refine hR.push' eC hX rX eK (fun k hk => sI_ne _ _ hk) (fun k b => rfl) (hR.st.put (r0 := r) (p0 := p) hr hRR hp hQQ (c := v) (s := s) l14 (fun q hq => ?_) hsv (by rcases hv with rfl | hv; decide; omega)) ?_ ?_ ?_ ?_ ?_
          · by_cases hpq : q = p
            · subst hpq
              rw [if_pos rfl, hrv, decide_eq_true hvz]
            · rw [if_neg hpq]
          · rw [← hX0, gI_sI, if_neg (by omega), eC.k (by omega)]
          · rw [← hX0, gI_sI, if_neg (by omega), eC.k (by omega)]
          · rw [← hX0, upN_sI, eC.k (by omega)]
          · rw [← hX0, sI_ne _ _ (by omega), eC.k (by omega)]
          · rw [upN_sI, k98, show upN (gI m 98) (14 + r) (nI (vN (gI m 98 (14 + r)))) = gI m 98 from funext (fun j => by unfold upN; by_cases hj : j = 14 + r; rw [if_pos hj, hj, ← w14]; rw [if_neg hj])]
    · have hv1 : ¬ v = -1 := fun e => hv (Or.inl e)
      refine OpI.no hR (v := 2) (w := 0) (by decide) ?_ ?_ (Or.inr ⟨0, rfl⟩)
      · unfold f_L_setScore f_X9_setScore B_X9_setScore_22
        rw [x1_of (c_pair_ok N hR.b hab.1 hab.2), if_neg hv1]
        by_cases h1 : v < 1
        · rw [if_pos h1]
          rfl
        · rw [if_neg h1, if_neg]
          · rfl
          · intro h2
            rw [Int32.lt_iff_toInt_lt] at h1
            rw [Int32.le_iff_toInt_le] at h2
            simp at h1 h2
            exact hv (Or.inr ⟨by omega, by omega⟩)
      · unfold f_X10_setScore
        rw [b2_of (m_both_ok N hR.b hab.1 hab.2), if_neg (by decide), if_neg hv1, in_eq]
        by_cases h1 : v < 1
        · rw [if_pos h1, b2_of rfl, if_pos rfl]
          rfl
        · rw [if_neg h1, if_pos, b2_of rfl, if_pos rfl]
          · rfl
          · apply Classical.byContradiction
            intro h2
            rw [Int32.lt_iff_toInt_lt] at h1 h2
            simp at h1 h2
            exact hv (Or.inr ⟨by omega, by omega⟩)
  · refine OpI.no hR (v := 1) (w := 0) (by decide) ?_ ?_ (Or.inl rfl)
    · unfold f_L_setScore f_X9_setScore
      rw [x1_th (c_pair_no N hR.b hab)]
      rfl
    · unfold f_X10_setScore
      rw [b2_of (m_both_no N hR.b hab)]
      rfl
