/-! DECLARE, UNASSIGN, SETSCORE, ASSIGN -/
theorem kx {X K : Mem} {w : Int64} (eK : KepE (sI (sJ X 108 0 w) 95 0 0) K) {k : Nat} (h : k ≠ 99) (h' : k ≠ 95) : gI K k = gI X k := by
  funext j
  rw [eK.k h (by omega), gI_sI, if_neg (by omega), gI_sJ]
theorem Rel.push' {m C X K m2 : Mem} {w : Int64} (hR : Rel m) (eC : RemE m C) (hX : ∀ k, k ≠ 3 → k ≠ 4 → k ≠ 5 → gI X k = gI C k) (rX : ∀ k j, gR X k j = gR C k j) (eK : KepE (sI (sJ X 108 0 w) 95 0 0) K) (h2 : ∀ k, k ≠ 98 → gI m2 k = gI K k) (r2 : ∀ k j, gR m2 k j = gR K k j)
    {gr li sc de W} (hT : RelT (gI m 96) gr li sc de W) (e2 : gI X 3 2 = gr) (e3 : gI X 3 3 = li) (e4 : gI X 4 = sc) (e5 : gI X 5 = de) (e98 : gI m2 98 = W) : Rel m2 := by
  refine hR.push eC (m1 := sI (sJ X 108 0 w) 95 0 0) (fun k b q1 q2 q3 q4 => ?_) (fun k b => rX k b) eK h2 r2 (StateAt.of hT ?_ ?_ ?_ ?_ ?_ e98)
  · rw [gI_sI, if_neg (by omega), gI_sJ, hX k q1 q2 q3]
  · rw [h2 96 (by omega), kx eK (by omega) (by omega), hX 96 (by omega) (by omega) (by omega), eC.k (by omega)]
  · rw [h2 3 (by omega), kx eK (by omega) (by omega)]
    exact e2
  · rw [h2 3 (by omega), kx eK (by omega) (by omega)]
    exact e3
  · rw [h2 4 (by omega), kx eK (by omega) (by omega)]
    exact e4
  · rw [h2 5 (by omega), kx eK (by omega) (by omega)]
    exact e5
/-- the memory before keeps is there, with its past -/
theorem Rel.kept {N : Nat} (hN : 3000 < N) {m C X : Mem} (hR : Rel m) (eC : RemE m C) (hX : ∀ k, k ≠ 3 → k ≠ 4 → k ≠ 5 → gI X k = gI C k) (w : Int64) : ∃ K, f_X10_keeps N (sI (sJ X 108 0 w) 95 0 0) = some K ∧ KepE (sI (sJ X 108 0 w) 95 0 0) K := by
  obtain ⟨n, hn, h5⟩ := hR.past
  refine m_keeps hN hn ?_
  rw [gI_sI, if_neg (by decide), gI_sJ, hX 95 (by omega) (by omega) (by omega), eC.k (by omega)]
  exact h5
theorem Rel.xb {m C X : Mem} (hR : Rel m) (eC : RemE m C) (hX : ∀ k, k ≠ 3 → k ≠ 4 → k ≠ 5 → gI X k = gI C k) (rX : ∀ k j, gR X k j = gR C k j) (w : Int64) : RelB (sJ X 108 0 w) ∧ RelB (sI (sJ X 108 0 w) 95 0 0) := by
  have h : RelB (sJ X 108 0 w) := hR.b.keep ((hX 96 (by omega) (by omega) (by omega)).trans (eC.k (by omega))) ((hX 98 (by omega) (by omega) (by omega)).trans (eC.k (by omega))) (fun k k1 k2 => (hX k (by omega) (by omega) (by omega)).trans (eC.k (by omega))) ((rX 0 7).trans (eC.r 0 7)) ((rX 0 8).trans (eC.r 0 8))
  exact ⟨h, h.keep (sI_ne _ _ (by omega)) (sI_ne _ _ (by omega)) (fun k k1 k2 => sI_ne _ _ (by omega)) rfl rfl⟩
theorem op_declare {N : Nat} (hN : 3000 < N) : Op_declare N := by
  intro m hR a b
  by_cases hab : inR a (nR m) = true ∧ inR b (nQ m) = true
  · obtain ⟨r, hr, rfl⟩ := inR_nI hab.1
    obtain ⟨p, hp, rfl⟩ := inR_nI hab.2
    have hRR := hR.b.R.2
    have hQQ := hR.b.Q.2
    have hrv := hR.rv (show r < 12 by omega) (show p < 16 by omega)
    by_cases hz : gI m 4 (16 * r + p) = 0
    · rw [decide_eq_false (by simp [hz])] at hrv
      obtain ⟨C, hC, eC⟩ := c_remember N hR.hist
      have hd := hR.de (show r < 12 by omega)
      have hd0 : 0 ≤ (gI m 98 (2 + r)).toInt := hR.b.2.2.2.1 _ (by omega)
      have hor : gI m 98 (2 + r) ||| ((1 : Int32) <<< (nI p &&& 31)) = nI (vN (gI m 98 (2 + r)) ||| 2 ^ p) := by
        have := or_bit (k := vN (gI m 98 (2 + r))) (j := p) (by omega)
        rw [← vN_eq hd0] at this
        exact this
      have hX : ∀ k, k ≠ 3 → k ≠ 4 → k ≠ 5 → gI (sI C 5 r (nI (vN (gI m 98 (2 + r)) ||| 2 ^ p))) k = gI C k := fun k _ _ q => sI_ne _ _ q
      generalize hX0 : sI C 5 r (nI (vN (gI m 98 (2 + r)) ||| 2 ^ p)) = X at hX
      have rX : ∀ k j, gR X k j = gR C k j := fun k j => by rw [← hX0]; rfl
      generalize hbb : (if (vN (gI m 98 (2 + r))).testBit p = true then (0 : Int32) else 1) = bb
      generalize hw : (if bb = 0 then (0 : Int64) else 1) = w
      obtain ⟨K, hK, eK⟩ := hR.kept hN eC hX w
      obtain ⟨xb1, xb2⟩ := hR.xb eC hX rX w
      have k98 : gI K 98 = gI m 98 := by rw [kx eK (by omega) (by omega), hX 98 (by omega) (by omega) (by omega), eC.k (by omega)]
      have x96 : ∀ j, gI (sJ X 108 0 w) 96 j = gI m 96 j := fun j => by rw [gI_sJ, hX 96 (by omega) (by omega) (by omega), eC.k (by omega)]
      have x98 : ∀ j, gI (sI (sJ X 108 0 w) 95 0 0) 98 j = gI m 98 j := fun j => by rw [gI_sI, if_neg (by omega), gI_sJ, hX 98 (by omega) (by omega) (by omega), eC.k (by omega)]
      refine ⟨0, sJ X 108 0 w, bb, sI K 98 (2 + r) (nI (vN (gI m 98 (2 + r)) ||| 2 ^ p)), ?_, ?_, ?_, fun _ => ?_, ?_⟩
      · unfold f_L_declare f_X9_declare
        have hdec : f_X7_isDeclared N (nI r) (nI p) C = some (if (vN (gI m 98 (2 + r))).testBit p then 1 else 0, C) := by
          have := c_isDeclared N (show r < 12 by omega) (show p < 32 by omega) C (by rw [eC.k (by omega), hd]; exact hd0)
          rw [eC.k (by omega), hd] at this
          exact this
        have hadd : f_X7_addConflict N (nI r) (nI p) C = some X := by
          unfold f_X7_addConflict
          rw [gd_t (inb_nI (by omega) (by omega)), nI_clamp (by omega), eC.k (by omega), hd, hor, wr_eq, hX0]
        rw [x1_of (c_pair_ok N hR.b hab.1 hab.2), b2_of (c_hasReview N (by omega) (by omega) m), if_pos hz, if_pos rfl, b1_of hC, b2_of hdec]
        unfold B_X9_declare_56
        rw [b1_of hadd, b1_of hadd, ← hw, ← hbb]
        cases (vN (gI m 98 (2 + r))).testBit p <;> rfl
      · unfold f_X10_declare
        have hb : f_X10_areBoth N (nI r) (nI p) (sJ X 108 0 w) = some (1, sI (sJ X 108 0 w) 95 0 0) := m_both_ok N xb1 (by unfold nR; rw [x96]; exact hab.1) (by unfold nQ; rw [x96]; exact hab.2)
        rw [b2_of hb, if_neg (by decide), b2_of (m_isReview N (by omega) (by omega) _ (xb2.2.2.2.1 _ (by omega))), x98, hrv, if_pos (by rfl), show (2 : Int32) + nI r = nI (2 + r) from nI_add 2 r, gd_t (inb_nI (by omega) (by omega)), nI_clamp (by omega), b2_of (m_has' N (xb2.2.2.2.1 _ (by omega)) (by omega) _), x98]
        have h47 : ∀ s0, B_X10_declare_47 N (nI r) (nI p) s0 (sI (sJ X 108 0 w) 95 0 0) = gd (isB s0) (some (s0, sI K 98 (2 + r) (nI (vN (gI m 98 (2 + r)) ||| 2 ^ p)))) := by
          intro s0
          unfold B_X10_declare_47
          rw [b1_of hK, show (2 : Int32) + nI r = nI (2 + r) from nI_add 2 r, gd_t (inb_nI (by omega) (by omega)), nI_clamp (by omega), k98, hor, wr_eq]
        rw [h47, h47, ← hbb]
        cases (vN (gI m 98 (2 + r))).testBit p <;> rfl
      · rw [gI_sI, if_neg (by omega), eK.k (by omega) (by omega), gI_sI, if_pos ⟨rfl, rfl⟩]
      · rw [gJ_sI, eK.j, gJ_sI, gJ_sJ, if_pos ⟨rfl, rfl⟩, hw]
      · refine hR.push' eC hX rX eK (fun k hk => sI_ne _ _ hk) (fun k b => rfl) (hR.st.decl (r0 := r) (p0 := p) hr hRR (by omega) rfl) ?_ ?_ ?_ ?_ ?_
        · rw [← hX0, gI_sI, if_neg (by omega), eC.k (by omega)]
        · rw [← hX0, gI_sI, if_neg (by omega), eC.k (by omega)]
        · rw [← hX0, sI_ne _ _ (by omega), eC.k (by omega)]
        · rw [← hX0, upN_sI, eC.k (by omega)]
        · rw [upN_sI, k98]
    · rw [decide_eq_true hz] at hrv
      refine OpZ.no hR (v := 2) (w := 0) (by decide) ?_ ?_ (Or.inr ⟨0, rfl⟩)
      · unfold f_L_declare f_X9_declare
        rw [x1_of (c_pair_ok N hR.b hab.1 hab.2), b2_of (c_hasReview N (by omega) (by omega) m), if_neg hz, if_neg (by decide)]
        rfl
      · have hR2 : Rel (sI m 95 0 0) := hR.core (Core.sI95 (by omega))
        unfold f_X10_declare
        rw [b2_of (m_both_ok N hR.b hab.1 hab.2), if_neg (by decide), b2_of (m_isReview N (by omega) (by omega) _ (hR2.b.2.2.2.1 _ (by omega))), show (vN (gI (sI m 95 0 0) 98 (14 + r))).testBit p = true from hrv, if_neg (by decide)]
        rfl
  · refine OpZ.no hR (v := 1) (w := 0) (by decide) ?_ ?_ (Or.inl rfl)
    · unfold f_L_declare f_X9_declare
      rw [x1_th (c_pair_no N hR.b hab)]
      rfl
    · unfold f_X10_declare
      rw [b2_of (m_both_no N hR.b hab)]
      rfl
theorem Rel.w14 {m : Mem} (h : Rel m) {r : Nat} (hr : r < 12) : gI m 98 (14 + r) = nI (vN (gI m 98 (14 + r))) ∧ vN (gI m 98 (14 + r)) < 65536 := ⟨vN_eq (h.b.2.2.2.1 _ (by omega)), (h.b.2.2.2.2 r hr).2⟩
theorem c_checkReview (N : Nat) {r p : Nat} (hr : r < 12) (hp : p < 16) (m : Mem) : f_X9_checkReview N (nI r) (nI p) m = if gI m 4 (16 * r + p) = 0 then some (.inr 3, m) else some (.inl (), m) := by
  unfold f_X9_checkReview
  rw [b2_of (c_hasReview N hr hp m)]
  by_cases h : gI m 4 (16 * r + p) = 0
  · rw [if_pos h, if_pos rfl, if_pos h]
  · rw [if_neg h, if_neg (by decide), if_neg h]
theorem m_removes (N : Nat) {r p : Nat} (hr : r < 12) (hp : p < 16) {m : Mem} {w : Nat} (hw : gI m 98 (14 + r) &&& (((1 : Int32) <<< (nI p &&& 31)) ^^^ -1) = nI w) : f_X10_removes N (nI r) (nI p) m = some (sI (sI m 98 (14 + r) (nI w)) 98 (26 + (16 * r + p)) 0) := by
  unfold f_X10_removes
  rw [show (14 : Int32) + nI r = nI (14 + r) from nI_add 14 r, gd_t (inb_nI (by omega) (by omega)), nI_clamp (by omega), hw, wr_eq, show ((26 : Int32) + (16 : Int32) * nI r) + nI p = nI (26 + (16 * r + p)) by rw [show (16 : Int32) = nI 16 from rfl, show (26 : Int32) = nI 26 from rfl, nI_mul, nI_add, nI_add, Nat.add_assoc], gd_t (inb_nI (by omega) (by omega)), nI_clamp (by omega)]
  rfl
theorem m_orNone {m : Mem} (N : Nat) {c : Int32} (h1 : ¬ c = 0) (h2 : -1 ≤ c.toInt) : f_X10_orNone N (if 0 < c then c else 0) m = some (c, m) := by
  unfold f_X10_orNone
  by_cases hc : 0 < c
  · rw [if_pos hc, if_neg h1]
  · rw [if_neg hc, if_pos rfl]
    have : c = -1 := by
      apply Int32.toInt_inj.mp
      rw [Int32.lt_iff_toInt_lt] at hc
      have h0 : c.toInt ≠ 0 := fun e => h1 (Int32.toInt_inj.mp e)
      simp at hc ⊢
      omega
    rw [this]
theorem op_unassign {N : Nat} (hN : 3000 < N) : Op_unassign N := by
  intro m hR a b
  by_cases hab : inR a (nR m) = true ∧ inR b (nQ m) = true
  · obtain ⟨r, hr, rfl⟩ := inR_nI hab.1
    obtain ⟨p, hp, rfl⟩ := inR_nI hab.2
    have hRR := hR.b.R.2
    have hQQ := hR.b.Q.2
    have hr12 : r < 12 := by omega
    have hp16 : p < 16 := by omega
    have hrv := hR.rv hr12 hp16
    by_cases hz : gI m 4 (16 * r + p) = 0
    · rw [decide_eq_false (by simp [hz])] at hrv
      refine OpI.no hR (v := 2) (w := 0) (by decide) ?_ ?_ (Or.inr ⟨0, rfl⟩)
      · unfold f_L_unassign f_X9_unassign
        rw [x1_of (c_pair_ok N hR.b hab.1 hab.2), x1_th (by rw [c_checkReview N hr12 hp16, if_pos hz])]
        rfl
      · have hR2 : Rel (sI m 95 0 0) := hR.core (Core.sI95 (by omega))
        unfold f_X10_unassign
        rw [b2_of (m_both_ok N hR.b hab.1 hab.2), if_neg (by decide), b2_of (m_isReview N hr12 (by omega) _ (hR2.b.2.2.2.1 _ (by omega))), show (vN (gI (sI m 95 0 0) 98 (14 + r))).testBit p = false from hrv, if_pos (by rfl)]
        rfl
    · rw [decide_eq_true hz] at hrv
      obtain ⟨C, hC, eC⟩ := c_remember N hR.hist
      obtain ⟨w14, l14⟩ := hR.w14 hr12
      obtain ⟨w', hw', lw', bw'⟩ := and_not (k := vN (gI m 98 (14 + r))) (j := p) l14 (by omega)
      rw [← w14] at hw'
      have hX : ∀ k, k ≠ 3 → k ≠ 4 → k ≠ 5 → gI (sI C 4 (16 * r + p) 0) k = gI C k := fun k _ q _ => sI_ne _ _ q
      generalize hX0 : sI C 4 (16 * r + p) 0 = X at hX
      have rX : ∀ k j, gR X k j = gR C k j := fun k j => by rw [← hX0]; rfl
      generalize hc : gI m 4 (16 * r + p) = c at *
      have hcb := hR.scb hr12 hp16
      have hsc := hR.scv hr12 hp16
      rw [hc] at hcb hsc
      obtain ⟨K, hK, eK⟩ := hR.kept hN eC hX c.toInt64
      obtain ⟨xb1, xb2⟩ := hR.xb eC hX rX c.toInt64
      have k98 : gI K 98 = gI m 98 := by rw [kx eK (by omega) (by omega), hX 98 (by omega) (by omega) (by omega), eC.k (by omega)]
      have x96 : ∀ j, gI (sJ X 108 0 c.toInt64) 96 j = gI m 96 j := fun j => by rw [gI_sJ, hX 96 (by omega) (by omega) (by omega), eC.k (by omega)]
      have x98 : ∀ j, gI (sI (sJ X 108 0 c.toInt64) 95 0 0) 98 j = gI m 98 j := fun j => by rw [gI_sI, if_neg (by omega), gI_sJ, hX 98 (by omega) (by omega) (by omega), eC.k (by omega)]
      refine ⟨0, sJ X 108 0 c.toInt64, c, sI (sI K 98 (14 + r) (nI w')) 98 (26 + (16 * r + p)) 0, ?_, ?_, ?_, fun _ => ?_, ?_⟩
      · unfold f_L_unassign f_X9_unassign
        rw [x1_of (c_pair_ok N hR.b hab.1 hab.2), x1_of (by rw [c_checkReview N hr12 hp16, if_neg (by rw [hc]; exact hz)]), b1_of hC, b2_of (c_scoreAt N hr12 hp16 C), b1_of (c_put N hr12 hp16 0 C), eC.k (by omega), hc, hX0]
        rfl
      · have hb : f_X10_areBoth N (nI r) (nI p) (sJ X 108 0 c.toInt64) = some (1, sI (sJ X 108 0 c.toInt64) 95 0 0) := m_both_ok N xb1 (by unfold nR; rw [x96]; exact hab.1) (by unfold nQ; rw [x96]; exact hab.2)
        unfold f_X10_unassign
        rw [b2_of hb, if_neg (by decide), b2_of (m_isReview N hr12 (by omega) _ (xb2.2.2.2.1 _ (by omega))), x98, hrv, if_neg (by decide), b1_of hK, b2_of (m_score N hr12 hp16 K), b1_of (m_removes N hr12 hp16 (w := w') (by rw [k98]; exact hw')), k98, hsc, b2_of (m_orNone N hz hcb.1)]
      · rw [gI_sI, if_neg (by omega), gI_sI, if_neg (by omega), eK.k (by omega) (by omega), gI_sI, if_pos ⟨rfl, rfl⟩]
      · rw [gJ_sI, gJ_sI, eK.j, gJ_sI, gJ_sJ, if_pos ⟨rfl, rfl⟩]
      · refine hR.push' eC hX rX eK (fun k hk => by rw [sI_ne _ _ hk, sI_ne _ _ hk]) (fun k b => rfl) (hR.st.put (r0 := r) (p0 := p) hr hRR hp hQQ (c := 0) (s := 0) lw' (fun q hq => ?_) rfl (by decide)) ?_ ?_ ?_ ?_ ?_
        · rw [bw' q hq]
          by_cases hpq : q = p
          · subst hpq
            simp
          · rw [if_neg hpq, decide_eq_true (by omega), Bool.and_true]
        · rw [← hX0, gI_sI, if_neg (by omega), eC.k (by omega)]
        · rw [← hX0, gI_sI, if_neg (by omega), eC.k (by omega)]
        · rw [← hX0, upN_sI, eC.k (by omega)]
        · rw [← hX0, sI_ne _ _ (by omega), eC.k (by omega)]
        · rw [upN_sI, upN_sI, k98]
  · refine OpI.no hR (v := 1) (w := 0) (by decide) ?_ ?_ (Or.inl rfl)
    · unfold f_L_unassign f_X9_unassign
      rw [x1_th (c_pair_no N hR.b hab)]
      rfl
    · unfold f_X10_unassign
      rw [b2_of (m_both_no N hR.b hab)]
      rfl
