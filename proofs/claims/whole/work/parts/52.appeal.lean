/-! APPEAL -/
theorem sI_sI (m : Mem) (k j : Nat) (v w : Int32) : sI (sI m k j v) k j w = sI m k j w := by
  unfold sI
  congr 1
  funext a b
  by_cases h : a = k ∧ b = j
  · simp [up2, h]
  · simp [up2, h]
theorem l5_of {a b c d β : Type} {x : Option (a × b × c × d × Mem)} {K : a → b → c → d → Mem → Option β} {y : a} {z : b} {u : c} {v : d} {m : Mem} (h : x = some (y, z, u, v, m)) : l5 x K = K y z u v m := by rw [h]; rfl
theorem cnt_but {P : Nat → Bool} {r : Nat} (hr : P r = true) : ∀ n, cnt (fun k => decide (¬ k = r) && P k) n + (if r < n then 1 else 0) = cnt P n
  | 0 => rfl
  | n + 1 => by
    have ih := cnt_but hr n
    show cnt (fun k => decide (¬ k = r) && P k) n + (if (decide (¬ n = r) && P n) then 1 else 0) + _ = cnt P n + (if P n then 1 else 0)
    by_cases hn : n = r
    · subst hn
      rw [if_neg (Nat.lt_irrefl n)] at ih
      rw [hr, decide_eq_false (show ¬ ¬ n = n from fun h => h rfl), Bool.false_and, if_neg (show ¬ false = true by decide), if_pos (show n < n + 1 by omega), if_pos rfl]
      omega
    · rw [decide_eq_true hn, Bool.true_and]
      by_cases h1 : r < n
      · rw [if_pos h1] at ih
        rw [if_pos (show r < n + 1 by omega)]
        omega
      · rw [if_neg h1] at ih
        rw [if_neg (show ¬ r < n + 1 by omega)]
        omega
def apS (m : Mem) (r p k : Nat) : Nat := if k = r then 0 else sv m k p
def apC (m : Mem) (r p k : Nat) : Bool := decide (¬ k = r) && decide (¬ sv m k p = 0)
theorem c_appeal_go {N : Nat} (hN : 12 < N) {m : Mem} (h : Rel m) {r p : Nat} (hr : r < 12) (hp : p < 16) : L_X9_appeal_20 N N (nI r) (nI p) 0 0 0 m = some (nI r, nI p, nI (cnt (apC m r p) (nR m)), nI (sm (apS m r p) (nR m)), m) := by
  have hR := h.b.R.2
  refine loop_fn (fun n i => L_X9_appeal_20 N n (nI r) (nI p) (nI (cnt (apC m r p) i)) (nI (sm (apS m r p) i)) (nI i) m) (nR m) _ (fun n i hi => ?_) (fun n => ?_) (nR m) N 0 (by omega) (by omega)
  · show T_X9_appeal_20 N (L_X9_appeal_20 N n) _ _ _ _ _ _ = L_X9_appeal_20 N n _ _ _ _ _ _
    unfold T_X9_appeal_20
    rw [gd_t (st_k h.b.s), h.b.cR, if_neg (nI_ge hi (by omega)), nI_1, nI_1, b2_of (c_hasSc N h (by omega) hp)]
    show _ = L_X9_appeal_20 N n (nI r) (nI p) (nI (cnt (apC m r p) i + (if apC m r p i then 1 else 0))) (nI (sm (apS m r p) i + apS m r p i)) (nI (i + 1)) m
    by_cases hir : i = r
    · subst hir
      rw [if_pos rfl]
      unfold apC apS
      simp
    · rw [if_neg (fun e => hir ((nI_eq (by omega) (by omega)).mp e))]
      have eS : apS m r p i = sv m i p := if_neg hir
      have eC : apC m r p i = decide (¬ sv m i p = 0) := by
        unfold apC
        rw [decide_eq_true hir, Bool.true_and]
      rw [eS, eC]
      by_cases hz : sv m i p = 0
      · rw [if_pos hz, if_pos rfl, hz]
        simp
      · rw [if_neg hz, if_neg (by decide), b2_of (c_sv N h (by omega) hp hz), nI_add, decide_eq_true hz, if_pos rfl]
  · show T_X9_appeal_20 N (L_X9_appeal_20 N n) _ _ _ _ _ _ = _
    unfold T_X9_appeal_20
    rw [gd_t (st_k h.b.s), h.b.cR, if_pos (nI_le (Nat.le_refl _) (by omega))]
theorem m_appeal_go {N : Nat} (hN : 12 < N) {m : Mem} (h : RelB m) {r p : Nat} (hr : r < 12) (hp : p < 16) (v3 : Int32) : L_X10_appeal_73 N N (nI r) (nI p) v3 0 0 m = some (nI r, nI p, v3, nI (sm (apS m r p) (nR m)), m) := by
  have hR := h.R.2
  refine loop_fn (fun n i => L_X10_appeal_73 N n (nI r) (nI p) v3 (nI (sm (apS m r p) i)) (nI i) m) (nR m) _ (fun n i hi => ?_) (fun n => ?_) (nR m) N 0 (by omega) (by omega)
  · show T_X10_appeal_73 N (L_X10_appeal_73 N n) _ _ _ _ _ _ = L_X10_appeal_73 N n _ _ _ _ _ _
    unfold T_X10_appeal_73
    rw [h.R.1, if_neg (nI_ge hi (by omega)), nI_1, show nI (sm (apS m r p) i) + (0 : Int32) = nI (sm (apS m r p) i) from nI_add _ 0, b2_of (m_sv N h (by omega) hp), nI_add]
    show _ = L_X10_appeal_73 N n (nI r) (nI p) v3 (nI (sm (apS m r p) i + apS m r p i)) (nI (i + 1)) m
    by_cases hir : i = r
    · subst hir
      rw [if_pos rfl]
      unfold apS
      simp
    · rw [if_neg (fun e => hir ((nI_eq (by omega) (by omega)).mp e)), show apS m r p i = sv m i p from if_neg hir]
  · show T_X10_appeal_73 N (L_X10_appeal_73 N n) _ _ _ _ _ _ = _
    unfold T_X10_appeal_73
    rw [h.R.1, if_pos (nI_le (Nat.le_refl _) (by omega))]
theorem RelT.grant {t gr li sc de W} (h : RelT t gr li sc de W) {p0 : Nat} (hp0 : p0 < 16) {d : Int32} (hd : d = nI (vN (W 1) ||| 2 ^ p0)) : RelT t d li sc de (upN W 1 d) := by
  obtain ⟨h1, h2, h3, h4, h5, h6, h7, h8⟩ := h
  have hl := or_lt h5 hp0
  refine ⟨fun i hi => ?_, by rw [upN_ne _ _ (by omega)]; exact h2, by rw [upN_ne _ _ (by omega)]; exact h3, (upN_same _ _ _).symm, by rw [upN_same, hd, vN_nI (by omega)]; exact hl, fun r hr => by rw [upN_ne _ _ (by omega)]; exact h6 r hr, fun r hr => by rw [upN_ne _ _ (by omega)]; exact h7 r hr, fun r hr p hp => by rw [upN_ne _ _ (by omega), upN_ne _ _ (by omega)]; exact h8 r hr p hp⟩
  by_cases hi0 : i = 1
  · subst hi0
    rw [upN_same, hd, nI_toInt (by omega)]
    omega
  · rw [upN_ne _ _ hi0]
    exact h1 i hi
theorem c_isGranted (N : Nat) {m : Mem} (h : Rel m) {p : Nat} (hp : p < 16) : f_X7_isGranted N (nI p) m = some (if (vN (gI m 98 1)).testBit p then 1 else 0, m) := by
  unfold f_X7_isGranted
  have e : gI m 98 1 = nI (vN (gI m 98 1)) := vN_eq (h.b.2.2.2.1 1 (by omega))
  rw [h.gr.1, e, sh_bit (by omega), ← e]
  cases (vN (gI m 98 1)).testBit p <;> rfl
theorem op_appeal {N : Nat} (hN : 3000 < N) : Op_appeal N := by
  intro m hR a b
  by_cases hab : inR a (nR m) = true ∧ inR b (nQ m) = true
  · obtain ⟨r, hr, rfl⟩ := inR_nI hab.1
    obtain ⟨p, hp, rfl⟩ := inR_nI hab.2
    have hRR := hR.b.R.2
    have hQQ := hR.b.Q.2
    have hr12 : r < 12 := by omega
    have hp16 : p < 16 := by omega
    have hR2 : Rel (sI m 95 0 0) := hR.core (Core.sI95 (by omega))
    have m3 : ∀ (v3 : Int32) (k : Int32), ¬ k ≤ 0 → B_X10_appeal_55 N (nI r) (nI p) v3 k (sI m 95 0 0) = some (0, sI (sI m 95 0 0) 95 0 k) := by
      intro v3 k hk
      unfold B_X10_appeal_55
      rw [rs_no _ hk]
    by_cases hz : sv m r p = 0
    · refine OpZ.no hR (v := 2) (w := 0) (by decide) ?_ ?_ (Or.inr ⟨0, rfl⟩)
      · unfold f_L_appeal f_X9_appeal
        rw [x1_of (c_pair_ok N hR.b hab.1 hab.2), x1_th (show f_X9_checkScore N (nI r) (nI p) m = some (.inr 3, m) by unfold f_X9_checkScore; rw [b2_of (c_hasSc N hR hr12 hp16), if_pos hz, if_pos rfl])]
        rfl
      · unfold f_X10_appeal
        rw [b2_of (m_both_ok N hR.b hab.1 hab.2), if_neg (by decide), b2_of (m_scoresOf (by omega) hR2.b hp16), b2_of (m_isScored N hR2.b hr12 hp16), if_pos (show sv (sI m 95 0 0) r p = 0 from hz), if_pos rfl, m3 _ 2 (by decide)]
    · have hcs : f_X9_checkScore N (nI r) (nI p) m = some (.inl (), m) := by
        unfold f_X9_checkScore
        rw [b2_of (c_hasSc N hR hr12 hp16), if_neg hz, if_neg (by decide)]
      have hcb := cnt_but (P := fun k => decide (¬ sv m k p = 0)) (r := r) (decide_eq_true hz) (nR m)
      rw [if_pos hr] at hcb
      have hcl := cnt_le (apC m r p) (nR m)
      generalize hn : cnt (apC m r p) (nR m) = n at *
      have hcb' : cnt (fun k => decide (¬ sv m k p = 0)) (nR m) = n + 1 := by rw [← hcb, ← hn]; rfl
      have hgo := c_appeal_go (N := N) (by omega) hR hr12 hp16
      rw [hn] at hgo
      have hms : f_X10_scoresOf N (nI p) (sI m 95 0 0) = some (nI (n + 1), sI m 95 0 0) := by
        rw [m_scoresOf (by omega) hR2.b hp16, ← hcb']
        rfl
      by_cases hno : n = 0 ∨ (vN (gI m 98 1)).testBit p = true
      · refine OpZ.no hR (v := 3) (w := 0) (by decide) ?_ ?_ (Or.inr ⟨0, rfl⟩)
        · unfold f_L_appeal f_X9_appeal B_X9_appeal_90
          rw [x1_of (c_pair_ok N hR.b hab.1 hab.2), x1_of hcs, l5_of hgo]
          by_cases hn0 : n = 0
          · rw [hn0, if_pos (show nI 0 = 0 from rfl)]
            rfl
          · rw [if_neg (nI_ne0 (by omega) (by omega)), b2_of (c_isGranted N hR hp16), if_pos (hno.resolve_left hn0), if_neg (by decide)]
            rfl
        · unfold f_X10_appeal B_X10_appeal_50
          rw [b2_of (m_both_ok N hR.b hab.1 hab.2), if_neg (by decide), b2_of hms, b2_of (m_isScored N hR2.b hr12 hp16), if_neg (show ¬ sv (sI m 95 0 0) r p = 0 from hz), if_neg (by decide), nI_pred]
          by_cases hn0 : n = 0
          · rw [hn0, if_pos (show nI 0 = 0 from rfl), m3 _ 3 (by decide)]
          · rw [if_neg (nI_ne0 (by omega) (by omega)), b2_of (m_has' N (hR2.b.2.2.2.1 1 (by omega)) (by omega) _), if_pos (show (vN (gI (sI m 95 0 0) 98 1)).testBit p = true from hno.resolve_left hn0), if_neg (by decide), m3 _ 3 (by decide)]
      · have hn0 : ¬ n = 0 := fun e => hno (Or.inl e)
        have hgb : (vN (gI m 98 1)).testBit p = false := by
          cases hb : (vN (gI m 98 1)).testBit p
          · rfl
          · exact absurd (Or.inr hb) hno
        generalize hd : nI n * nI (sv m r p) - nI (sm (apS m r p) (nR m)) = d at *
        have hlim : gI m (gR m 0 7) 15 = gI m 96 6 := hR.b.2.2.1.2.2.2.2.2.2.1
        have cgo : f_X9_appeal N (nI r) (nI p) m = (if nI n * gI m 96 6 < (if 0 ≤ d then d else 0 - d) then b1 (f_X2_remember N  m) (fun m_13 => b1 (f_X7_put N (nI r) (nI p) (0 : Int32) m_13) (fun m_14 => b1 (f_X7_addConflict N (nI r) (nI p) m_14) (fun m_15 => b1 (f_X7_grantAppeal N (nI p) m_15) (fun m_16 => some (.inl (1 : Int32), m_16))))) else some (.inl (0 : Int32), m)) := by
          unfold f_X9_appeal
          rw [x1_of (c_pair_ok N hR.b hab.1 hab.2), x1_of hcs, l5_of hgo, if_neg (nI_ne0 (by omega) (by omega)), b2_of (c_isGranted N hR hp16), hgb, if_pos (by rfl), b2_of (c_sv N hR hr12 hp16 hz), gd_t (st_k hR.b.s), hlim, hd]
        have mgo : ∀ m' : Mem, RelB m' → gI m' 96 = gI m 96 → gI m' 98 = gI m 98 → RelB (sI m' 95 0 0) → f_X10_appeal N (nI r) (nI p) m' = B_X10_appeal_138 N (nI r) (nI p) (nI n) (if 0 ≤ d then d else 0 - d) (sI m' 95 0 0) := by
          intro m' hb e96 e98 hb2
          have esv : ∀ k, sv (sI m' 95 0 0) k p = sv m k p := fun k => by
            unfold sv
            rw [gI_sI, if_neg (by omega), e98]
          have eap : apS (sI m' 95 0 0) r p = apS m r p := funext (fun k => by unfold apS; rw [esv])
          have enR : nR (sI m' 95 0 0) = nR m := by
            unfold nR
            rw [gI_sI, if_neg (by omega), e96]
          have hms2 : f_X10_scoresOf N (nI p) (sI m' 95 0 0) = some (nI (n + 1), sI m' 95 0 0) := by
            rw [m_scoresOf (by omega) hb2 hp16, ← hcb', enR]
            simp only [esv]
          have hgo2 := m_appeal_go (N := N) (by omega) hb2 hr12 hp16 (nI n)
          rw [eap, enR] at hgo2
          unfold f_X10_appeal B_X10_appeal_50 B_X10_appeal_55
          rw [b2_of (m_both_ok N hb (by unfold nR; rw [e96]; exact hab.1) (by unfold nQ; rw [e96]; exact hab.2)), if_neg (by decide), b2_of hms2, b2_of (m_isScored N hb2 hr12 hp16), esv, if_neg hz, if_neg (by decide), nI_pred, if_neg (nI_ne0 (by omega) (by omega)), b2_of (m_has' N (hb2.2.2.2.1 1 (by omega)) (by omega) _), show gI (sI m' 95 0 0) 98 1 = gI m 98 1 by rw [gI_sI, if_neg (by omega), e98], hgb, if_pos (by rfl)]
          rw [sI_sI, rs_ok, l5_of hgo2, b2_of (m_sv N hb2 hr12 hp16), esv, hd]
          by_cases h0 : 0 ≤ d
          · rw [if_pos h0, if_pos h0]
          · rw [if_neg h0, if_neg h0, Int32.zero_sub]
        by_cases hbig : nI n * gI m 96 6 < (if 0 ≤ d then d else 0 - d)
        · obtain ⟨C, hC, eC⟩ := c_remember N hR.hist
          obtain ⟨w14, l14⟩ := hR.w14 hr12
          obtain ⟨w', hw', lw', bw'⟩ := and_not (k := vN (gI m 98 (14 + r))) (j := p) l14 (by omega)
          rw [← w14] at hw'
          have hd0 : 0 ≤ (gI m 98 (2 + r)).toInt := hR.b.2.2.2.1 _ (by omega)
          have hg0 : 0 ≤ (gI m 98 1).toInt := hR.b.2.2.2.1 _ (by omega)
          have hor : gI m 98 (2 + r) ||| ((1 : Int32) <<< (nI p &&& 31)) = nI (vN (gI m 98 (2 + r)) ||| 2 ^ p) := by
            have := or_bit (k := vN (gI m 98 (2 + r))) (j := p) (by omega)
            rw [← vN_eq hd0] at this
            exact this
          have hog : gI m 98 1 ||| ((1 : Int32) <<< (nI p &&& 31)) = nI (vN (gI m 98 1) ||| 2 ^ p) := by
            have := or_bit (k := vN (gI m 98 1)) (j := p) (by omega)
            rw [← vN_eq hg0] at this
            exact this
          generalize hD : nI (vN (gI m 98 (2 + r)) ||| 2 ^ p) = D at *
          generalize hG : nI (vN (gI m 98 1) ||| 2 ^ p) = G at *
          have hX : ∀ k, k ≠ 3 → k ≠ 4 → k ≠ 5 → gI (sI (sI (sI C 4 (16 * r + p) 0) 5 r D) 3 2 G) k = gI C k := fun k q1 q2 q3 => by rw [sI_ne _ _ q1, sI_ne _ _ q3, sI_ne _ _ q2]
          generalize hX0 : sI (sI (sI C 4 (16 * r + p) 0) 5 r D) 3 2 G = X at hX
          have rX : ∀ k j, gR X k j = gR C k j := fun k j => by rw [← hX0]; rfl
          obtain ⟨K, hK, eK⟩ := hR.kept hN eC hX 1
          obtain ⟨xb1, xb2⟩ := hR.xb eC hX rX 1
          have k98 : gI K 98 = gI m 98 := by rw [kx eK (by omega) (by omega), hX 98 (by omega) (by omega) (by omega), eC.k (by omega)]
          have x96 : gI (sJ X 108 0 1) 96 = gI m 96 := by
            show gI X 96 = _
            rw [hX 96 (by omega) (by omega) (by omega), eC.k (by omega)]
          have x98 : gI (sJ X 108 0 1) 98 = gI m 98 := by
            show gI X 98 = _
            rw [hX 98 (by omega) (by omega) (by omega), eC.k (by omega)]
          refine ⟨0, sJ X 108 0 1, 1, sI (sI (sI (sI K 98 (14 + r) (nI w')) 98 (26 + (16 * r + p)) 0) 98 (2 + r) D) 98 1 G, ?_, ?_, ?_, fun _ => ?_, ?_⟩
          · have hadd : f_X7_addConflict N (nI r) (nI p) (sI C 4 (16 * r + p) 0) = some (sI (sI C 4 (16 * r + p) 0) 5 r D) := by
              unfold f_X7_addConflict
              rw [gd_t (inb_nI (by omega) (by omega)), nI_clamp (by omega), sI_ne _ _ (by omega), eC.k (by omega), hR.de hr12, hor]
              rfl
            have hgr : f_X7_grantAppeal N (nI p) (sI (sI C 4 (16 * r + p) 0) 5 r D) = some X := by
              unfold f_X7_grantAppeal
              rw [sI_ne _ _ (by omega), sI_ne _ _ (by omega), eC.k (by omega), hR.gr.1, hog, wr_eq, hX0]
            unfold f_L_appeal
            rw [cgo, if_pos hbig, b1_of hC, b1_of (c_put N hr12 hp16 0 C), b1_of hadd, b1_of hgr]
            rfl
          · rw [mgo _ xb1 x96 x98 xb2]
            unfold B_X10_appeal_138
            rw [show gI (sI (sJ X 108 0 1) 95 0 0) 96 6 = gI m 96 6 by rw [sI_ne _ _ (by omega), x96], if_pos hbig, b1_of hK, b1_of (m_removes N hr12 hp16 (w := w') (by rw [k98]; exact hw')), show (2 : Int32) + nI r = nI (2 + r) from nI_add 2 r, gd_t (inb_nI (by omega) (by omega)), nI_clamp (by omega), wr_eq, wr_eq]
            rw [show gI (sI (sI K 98 (14 + r) (nI w')) 98 (26 + (16 * r + p)) 0) 98 (2 + r) = gI m 98 (2 + r) by rw [gI_sI, if_neg (by omega), gI_sI, if_neg (by omega), k98], hor]
            rw [show gI (sI (sI (sI K 98 (14 + r) (nI w')) 98 (26 + (16 * r + p)) 0) 98 (2 + r) D) 98 1 = gI m 98 1 by rw [gI_sI, if_neg (by omega), gI_sI, if_neg (by omega), gI_sI, if_neg (by omega), k98], hog]
          · rw [gI_sI, if_neg (by omega), gI_sI, if_neg (by omega), gI_sI, if_neg (by omega), gI_sI, if_neg (by omega), eK.k (by omega) (by omega), gI_sI, if_pos ⟨rfl, rfl⟩]
          · rw [gJ_sI, gJ_sI, gJ_sI, gJ_sI, eK.j, gJ_sI, gJ_sJ, if_pos ⟨rfl, rfl⟩]
            rfl
          · have hput := hR.st.put (r0 := r) (p0 := p) hr hRR hp hQQ (c := 0) (s := 0) lw' (fun q hq => by
              rw [bw' q hq]
              by_cases hpq : q = p
              · subst hpq
                simp
              · rw [if_neg hpq, decide_eq_true (by omega), Bool.and_true]) rfl (by decide)
            have hdec := hput.decl (r0 := r) (p0 := p) hr hRR hp16 (d := D) (by rw [upN_ne _ _ (by omega), upN_ne _ _ (by omega), hD])
            have hgra := hdec.grant (p0 := p) hp16 (d := G) (by rw [upN_ne _ _ (by omega), upN_ne _ _ (by omega), upN_ne _ _ (by omega), hG])
            refine hR.push' eC hX rX eK (fun k hk => by rw [sI_ne _ _ hk, sI_ne _ _ hk, sI_ne _ _ hk, sI_ne _ _ hk]) (fun k b => rfl) hgra ?_ ?_ ?_ ?_ ?_
            · rw [← hX0, gI_sI, if_pos ⟨rfl, rfl⟩]
            · rw [← hX0, gI_sI, if_neg (by omega), sI_ne _ _ (by omega), sI_ne _ _ (by omega), eC.k (by omega)]
            · rw [← hX0, sI_ne _ _ (by omega), sI_ne _ _ (by omega), upN_sI, eC.k (by omega)]
            · rw [← hX0, sI_ne _ _ (by omega), upN_sI, sI_ne _ _ (by omega), eC.k (by omega)]
            · rw [upN_sI, upN_sI, upN_sI, upN_sI, k98]
        · refine OpZ.read hR (b := 0) (v := 0) rfl ?_ ?_
          · unfold f_L_appeal
            rw [cgo, if_neg hbig]
            rfl
          · have hR1 : Rel (sJ m 108 0 0) := hR.core Core.sJ'
            rw [mgo _ hR1.b rfl rfl (hR1.core (Core.sI95 (by omega))).b]
            unfold B_X10_appeal_138
            rw [show gI (sI (sJ m 108 0 0) 95 0 0) 96 6 = gI m 96 6 from rfl, if_neg hbig]
  · refine OpZ.no hR (v := 1) (w := 0) (by decide) ?_ ?_ (Or.inl rfl)
    · unfold f_L_appeal f_X9_appeal
      rw [x1_th (c_pair_no N hR.b hab)]
      rfl
    · unfold f_X10_appeal
      rw [b2_of (m_both_no N hR.b hab)]
      rfl
