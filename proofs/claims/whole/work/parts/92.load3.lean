/-! LOAD: how both end; op_load -/
theorem ToldOK.ext {t t' : Nat → Int32} (h : ToldOK t) (e : ∀ k, k < 151 → t' k = t k) : ToldOK t' := by
  obtain ⟨a1, a2, a3, a4, a5, a6, a7, a8, a9, a10, a11, a12⟩ := h
  refine ⟨fun k hk => by rw [e k hk]; exact a1 k hk, by rw [e 0 (by omega)]; exact a2, by rw [e 1 (by omega)]; exact a3, by rw [e 2 (by omega)]; exact a4, by rw [e 3 (by omega)]; exact a5, by rw [e 4 (by omega)]; exact a6, by rw [e 5 (by omega)]; exact a7, by rw [e 6 (by omega)]; exact a8, fun i hi => ?_, fun r hr => ?_, fun r hr => ?_, fun r hr => ?_⟩
  · rw [e 0 (by omega)] at hi
    rw [e (7 + i) (by omega)]
    exact a9 i hi
  · rw [e 1 (by omega)] at hr
    rw [e 0 (by omega), e (11 + 4 * r) (by omega), e (12 + 4 * r) (by omega), e (13 + 4 * r) (by omega), e (14 + 4 * r) (by omega)]
    exact a10 r hr
  · rw [e 2 (by omega)] at hr
    rw [e 0 (by omega), e (59 + 5 * r) (by omega), e (60 + 5 * r) (by omega), e (61 + 5 * r) (by omega), e (62 + 5 * r) (by omega), e (63 + 5 * r) (by omega)]
    exact a11 r hr
  · rw [e 1 (by omega), e (139 + r) (by omega)]
    exact a12 r hr
theorem SetupOK.ext {t t' f bu rp rh rc ro co pp ph pt pa pl : Nat → Int32} (h : ToldOK t) (hs : SetupOK t f bu rp rh rc ro co pp ph pt pa pl) (e : ∀ k, k < 151 → t' k = t k) : SetupOK t' f bu rp rh rc ro co pp ph pt pa pl := by
  obtain ⟨a1, a2, a3, a4, a5⟩ := h
  obtain ⟨s1, s2, s3, s4, s5, s6, s7, s8, s9, s10, s11⟩ := hs
  refine ⟨by rw [e 0 (by omega)]; exact s1, by rw [e 1 (by omega)]; exact s2, by rw [e 2 (by omega)]; exact s3, by rw [e 3 (by omega)]; exact s4, by rw [e 4 (by omega)]; exact s5, by rw [e 5 (by omega)]; exact s6, by rw [e 6 (by omega)]; exact s7, fun i hi => ?_, fun r hr => ?_, fun r hr => ?_, fun r hr => ?_⟩
  · rw [e 0 (by omega)] at hi
    rw [e (7 + i) (by omega)]
    exact s8 i hi
  · rw [e 1 (by omega)] at hr
    rw [e (11 + 4 * r) (by omega), e (12 + 4 * r) (by omega), e (13 + 4 * r) (by omega), e (14 + 4 * r) (by omega)]
    exact s9 r hr
  · rw [e (139 + r) (by omega)]
    exact s10 r hr
  · rw [e 2 (by omega)] at hr
    rw [e (59 + 5 * r) (by omega), e (60 + 5 * r) (by omega), e (61 + 5 * r) (by omega), e (62 + 5 * r) (by omega), e (63 + 5 * r) (by omega)]
    exact s11 r hr
/-- the class takes what it has read -/
theorem c_fin {N : Nat} (hN : 1000 < N) {S : Nat} (hS : S = 71 ∨ S = 83) {m Xf : Mem} (hr : f_X8_read N (gR m 0 8) m = some (1, Xf)) (h8 : gR Xf 0 8 = S) : ∃ M6, f_X9_load N m = some (.inl (gI Xf S 2), M6) ∧ (gR M6 0 7 = S ∧ gR M6 0 8 = gR Xf 0 7 ∧ ∀ k, k ≠ 0 → ∀ j, gR M6 k j = gR Xf k j) ∧ (∀ k, k ≠ 1 → ¬ (3 ≤ k ∧ k ≤ 6) → gI M6 k = gI Xf k) ∧ (∀ j, gI M6 1 j = if j = 1 then 0 else gI Xf 1 j) ∧ gI M6 3 2 = 0 ∧ gI M6 3 3 = gI Xf S 16 ∧ (∀ j, j < 192 → gI M6 4 j = 0) ∧ (∀ j, j < 12 → gI M6 5 j = gI Xf (S + 6) j) ∧ (∀ j, gI M6 6 j = if j = 2 then 0 else gI Xf 6 j) := by
  have h7 : gR (sR (sR (sI Xf 1 1 0) 0 8 (gR Xf 0 7)) 0 7 S) 0 7 = S := by rw [gR_sR, if_pos ⟨rfl, rfl⟩]
  obtain ⟨M1, a1, a2, a3, a4, a5, a6⟩ := c_fill (N := N) (k := 4) (L := 192) (by decide) (by decide) (by omega) (by omega) 0 (sR (sR (sI Xf 1 1 0) 0 8 (gR Xf 0 7)) 0 7 S)
  have hkk : kd (S + 6) = 12 ∧ ln (S + 6) = 12 := by rcases hS with rfl | rfl <;> decide
  have hM : ∀ k, k ≠ 4 → gI M1 k = gI (sI Xf 1 1 0) k := fun k hk => a2 k hk
  have h16 : gI (sI (cpI M1 (S + 6) 0 5 0 12) 3 2 0) S 16 = gI Xf S 16 := by
    rw [sI_ne _ _ (by omega), gI_cpI, if_neg (by omega), hM S (by omega), sI_ne _ _ (by omega)]
  refine ⟨sI (sI (sI (cpI M1 (S + 6) 0 5 0 12) 3 2 0) 3 3 (gI Xf S 16)) 6 2 0, ?_, ⟨?_, ?_, fun k hk j => ?_⟩, fun k k1 k2 => ?_, fun j => ?_, ?_, ?_, fun j hj => ?_, fun j hj => ?_, fun j => ?_⟩
  · have e7 : gR (sI (sI (sI (cpI M1 (S + 6) 0 5 0 12) 3 2 0) 3 3 (gI Xf S 16)) 6 2 0) 0 7 = S := (a4 0 7).trans h7
    have e2 : gI (sI (sI (sI (cpI M1 (S + 6) 0 5 0 12) 3 2 0) 3 3 (gI Xf S 16)) 6 2 0) S 2 = gI Xf S 2 := by
      rw [sI_ne _ _ (by omega), sI_ne _ _ (by omega), sI_ne _ _ (by omega), gI_cpI, if_neg (by omega), hM S (by omega), sI_ne _ _ (by omega)]
    have hres : f_X7_restart N S (sR (sR (sI Xf 1 1 0) 0 8 (gR Xf 0 7)) 0 7 S) = some (sI (sI (cpI M1 (S + 6) 0 5 0 12) 3 2 0) 3 3 (gI Xf S 16)) := by
      unfold f_X7_restart
      rw [b1_of a1, gd_t (st_k hS), st_rt hS (k := 8) (by omega) (by omega), show S + (8 - 2) = S + 6 from rfl, gd_t (by unfold okC; rw [hkk.1, hkk.2]; decide), wr_eq, wr_eq, wr_eq]
      show some (sI (sI (cpI M1 (S + 6) 0 5 0 12) 3 2 0) 3 3 (gI (sI (cpI M1 (S + 6) 0 5 0 12) 3 2 0) S 16)) = _
      rw [h16]
    unfold f_X9_load
    rw [b2_of hr, wr_eq, if_neg (by decide), wr_eq, wr_eq, show gR (sI Xf 1 1 0) 0 8 = S from h8, show gR (sI Xf 1 1 0) 0 7 = gR Xf 0 7 from rfl, h7, b1_of hres]
    unfold f_X2_clear
    rw [wr_eq, b1_of rfl, e7, gd_t (st_k hS), e2]
  · exact (a4 0 7).trans h7
  · refine (a4 0 8).trans ?_
    rw [gR_sR, if_neg (by omega), gR_sR, if_pos ⟨rfl, rfl⟩]
  · refine (a4 k j).trans ?_
    rw [gR_sR, if_neg (by omega), gR_sR, if_neg (by omega)]
    rfl
  · rw [sI_ne _ _ (by omega), sI_ne _ _ (by omega), sI_ne _ _ (by omega)]
    funext j
    rw [gI_cpI, if_neg (by omega), hM k (by omega), sI_ne _ _ k1]
  · rw [sI_ne _ _ (by omega), sI_ne _ _ (by omega), sI_ne _ _ (by omega), gI_cpI, if_neg (by omega), hM 1 (by omega), sI_at]
  · rw [sI_ne _ _ (by omega), sI_at, if_neg (by omega), sI_at, if_pos rfl]
  · rw [sI_ne _ _ (by omega), sI_at, if_pos rfl]
  · rw [sI_ne _ _ (by omega), sI_ne _ _ (by omega), sI_ne _ _ (by omega), gI_cpI, if_neg (by omega), a3, if_pos hj]
  · rw [sI_ne _ _ (by omega), sI_ne _ _ (by omega), sI_ne _ _ (by omega), gI_cpI, if_pos (by omega), hM (S + 6) (by omega), sI_ne _ _ (by omega), show 0 + (j - 0) = j by omega]
  · rw [sI_at]
    by_cases q : j = 2
    · rw [if_pos q, if_pos q]
    · rw [if_neg q, if_neg q, sI_ne _ _ (by omega), sI_ne _ _ (by omega), gI_cpI, if_neg (by omega), hM 6 (by omega), sI_ne _ _ (by omega)]
theorem m_fin {N : Nat} (hN : 1000 < N) {Yf : Mem} (h : gI Yf 95 11 = 0) : ∃ Mo, B_X10_load_85 N Yf = some (gI Yf 97 2, Mo) ∧ (∀ k, k ≠ 95 → k ≠ 96 → k ≠ 98 → gI Mo k = gI Yf k) ∧ (∀ j, gI Mo 95 j = if j = 5 then 0 else if j = 7 then 0 else gI Yf 95 j) ∧ (∀ x, x < 151 → gI Mo 96 x = gI Yf 97 x) ∧ (∀ x, x < 218 → gI Mo 98 x = if x = 0 then gI Yf 97 4 else if 2 ≤ x ∧ x < 14 then gI Yf 97 (137 + x) else 0) ∧ Sm Yf Mo := by
  obtain ⟨A, a1, a2, a3, a4⟩ := z105 (N := N) 151 N 0 (sI Yf 95 7 0) (by omega) (by omega)
  obtain ⟨B, b1', b2', b3, b4⟩ := z132 (N := N) 218 N 0 A (by omega) (by omega)
  obtain ⟨C, c1, c2, c3, c4⟩ := z166 (N := N) 12 N 0 (sI B 98 0 (gI B 96 4)) (by omega) (by omega)
  have t : ∀ x, x < 151 → gI A 96 x = gI Yf 97 x := fun x hx => by rw [a3, if_pos (by omega), sI_ne _ _ (by omega)]
  have tB : gI B 96 = gI A 96 := b2' 96 (by omega)
  have tC : gI C 96 = gI A 96 := by rw [c2 96 (by omega), sI_ne _ _ (by omega), tB]
  have ne : ∀ k, k ≠ 95 → k ≠ 96 → k ≠ 98 → gI C k = gI Yf k := fun k k1 k2 k3 => by rw [c2 k k3, sI_ne _ _ k3, b2' k k3, a2 k k2, sI_ne _ _ k1]
  refine ⟨sI C 95 5 0, ?_, fun k k1 k2 k3 => by rw [sI_ne _ _ k1, ne k k1 k2 k3], fun j => ?_, fun x hx => by rw [sI_ne _ _ (by omega), tC, t x hx], fun x hx => ?_, ((Sm.s Yf 95 7 0).trans (a4.trans b4)).trans (((Sm.s B 98 0 _).trans c4).trans (Sm.s C 95 5 0))⟩
  · unfold B_X10_load_85
    rw [wr_eq, if_pos (show gI (sI Yf 95 7 0) 95 11 = 0 by rw [sI_at, if_neg (by omega)]; exact h), l1_of (show L_X10_load_105 N N 0 _ = some A from a1), l1_of (show L_X10_load_132 N N 0 _ = some B from b1'), wr_eq, l1_of (show L_X10_load_166 N N 0 _ = some C from c1), wr_eq, sI_ne _ _ (by omega), tC, t 2 (by omega)]
  · rw [sI_at, c2 95 (by omega), sI_ne _ _ (by omega), b2' 95 (by omega), a2 95 (by omega), sI_at]
  · rw [sI_ne _ _ (by omega), c3, sI_ne _ _ (by omega), sI_at, b3, tB]
    by_cases q : x = 0
    · rw [if_neg (by omega), if_pos q, if_pos q, t 4 (by omega)]
    · rw [if_neg q, if_neg q]
      by_cases q2 : 2 ≤ x ∧ x < 14
      · rw [if_pos q2, if_pos q2, t (137 + x) (by omega)]
      · rw [if_neg q2, if_neg q2, if_pos (by omega)]
theorem op_load {N : Nat} (hN : 1000 < N) : Op_load N := by
  intro m hR
  obtain ⟨r1, r2, ⟨len, l1, l2, l3, l4⟩, r4, r5, r6, r7, r8⟩ := hR
  have hv : ∀ i, i < len → gI m 100 i = nI (vN (gI m 100 i)) ∧ vN (gI m 100 i) < 256 := fun i hi => by
    obtain ⟨q1, q2, q3⟩ := l4 i hi
    exact ⟨vN_eq q1, by unfold vN; omega⟩
  have hX : TX (fun i => vN (gI m 100 i)) len m := ⟨l1, fun i hi => (hv i hi).2, l2, fun i hi => by
    rw [(l4 i hi).2.2]
    exact congrArg (fun z : Int32 => z.toInt8.toInt32) (hv i hi).1⟩
  have hY : TY (fun i => vN (gI m 100 i)) len m := ⟨l1, fun i hi => (hv i hi).2, l3, fun i hi => (hv i hi).1⟩
  generalize hT : (fun i => vN (gI m 100 i)) = T at hX hY
  obtain ⟨S, hS8⟩ : ∃ S, gR m 0 8 = S := ⟨_, rfl⟩
  obtain ⟨S', hS7⟩ : ∃ S', gR m 0 7 = S' := ⟨_, rfl⟩
  have hSS : (S' = 71 ∧ S = 83) ∨ (S' = 83 ∧ S = 71) := by
    unfold RefOK at r1
    rw [hS8, hS7] at r1
    exact r1
  have hS : S = 71 ∨ S = 83 := by omega
  obtain ⟨X0, x1, x2, x3, x4, x5, x6, x7, x8⟩ := c_start hN hS hX
  obtain ⟨Xf, Ym, f1, _, f3, _, _, _⟩ := sim hN hS x2 x4 x5 x6 x7 x8 hY
  have fA : FrA S m Xf := x3.trans f3
  -- the model, wherever it starts
  have model : ∀ M, gI M 95 = gI m 95 → gI M 100 = gI m 100 → ∃ Yf, f_X10_load N M = B_X10_load_85 N Yf ∧ FrL M Yf ∧ gI Yf 95 0 = 0 ∧ ((∃ s, GoodR T len s Xf Yf ∧ SD S Xf Yf) ∨ BadR Xf Yf) := by
    intro M e1 e2
    obtain ⟨Xf', Yf, g1, g2, g3, g4, g5, g6⟩ := sim hN hS x2 x4 x5 x6 x7 x8 (M := M) (T := T) (len := len) ⟨hY.1, hY.2.1, by rw [e1]; exact hY.2.2.1, fun i hi => by rw [e2]; exact hY.2.2.2 i hi⟩
    have : Xf' = Xf := Option.some.inj (g1.symm.trans f1)
    rw [this] at g6
    exact ⟨Yf, g2, g4, g5, g6⟩
  have hread : f_X8_read N (gR m 0 8) m = B_X8_read_61 N Xf := by rw [hS8, x1, l1_of f1]
  unfold B_X8_read_61 at hread
  by_cases hg : gI Xf 1 2 = 0
  · rw [if_pos hg] at hread
    have h8 : gR Xf 0 8 = S := by rw [fA.2.2.1]; exact hS8
    have h7 : gR Xf 0 7 = S' := by rw [fA.2.2.1]; exact hS7
    obtain ⟨M6, a1, ⟨a2, a3, a4⟩, a5, a6, a7, a8, a9, a10, a11⟩ := c_fin hN hS hread h8
    obtain ⟨Yf, g1, g2, g3, g4⟩ := model (sJ M6 108 0 (gI Xf S 2).toInt64) (by rw [show gI (sJ M6 108 0 (gI Xf S 2).toInt64) 95 = gI M6 95 from rfl, a5 95 (by omega) (by omega), fA.1 95 (by omega) (by omega)]) (by rw [show gI (sJ M6 108 0 (gI Xf S 2).toInt64) 100 = gI M6 100 from rfl, a5 100 (by omega) (by omega), fA.1 100 (by omega) (by omega)])
    obtain ⟨s, hG, hD⟩ : ∃ s, GoodR T len s Xf Yf ∧ SD S Xf Yf := g4.elim id (fun q => absurd hg q.1)
    obtain ⟨d1, d2⟩ := hD
    obtain ⟨Mo, b1', b2', b3, b4, b5, b6⟩ := m_fin hN hG.2.2.2.2.1
    -- the class's places at the end
    have ck : ∀ k, k ≤ 94 → gI Mo k = gI M6 k := fun k hk => by rw [b2' k (by omega) (by omega) (by omega), g2.1 k (by omega) (by omega)]; rfl
    have rk : ∀ k j, gR Mo k j = gR M6 k j := fun k j => by rw [b6.1 k j, g2.2.2.1 k j]; rfl
    have e7 : gR Mo 0 7 = S := by rw [rk, a2]
    have e8 : gR Mo 0 8 = S' := by rw [rk, a3, h7]
    have sk' : ∀ k, (71 ≤ k ∧ k ≤ 94) → gI Mo k = gI Xf k := fun k hk => by rw [ck k (by omega), a5 k (by omega) (by omega)]
    refine ⟨0, _, gI Yf 97 2, Mo, ?_, by rw [g1, b1'], by rw [b3, if_neg (by omega), if_neg (by omega)]; exact g3, fun _ => ?_, ?_, ?_, ?_, ?_, ?_, ?_, ?_, ?_⟩
    · unfold f_L_load
      rw [xh_of a1, wr_eq]
    · rw [b6.2.1, g2.2.2.2.1, gJ_sJ, if_pos ⟨rfl, rfl⟩, d2.2.2.1]
    · unfold RefOK
      rw [e7, e8]
      omega
    · have ch : ∀ k, k ≠ 0 → ∀ j, gR Mo k j = gR m k j := fun k hk j => by rw [rk, a4 k hk, fA.2.2.1]
      unfold ChOK ChAt at r2 ⊢
      rw [ch 61 (by omega), ch 61 (by omega), ch 61 (by omega), ch 61 (by omega), ch 66 (by omega), ch 66 (by omega), ch 66 (by omega), ch 66 (by omega)]
      exact r2
    · exact ⟨0, by omega, by rw [ck 1 (by omega), a6, if_pos rfl]; rfl, by rw [b3, if_neg (by omega), if_pos rfl]; rfl, fun i hi => by omega⟩
    · unfold ErrOK
      rw [ck 1 (by omega), a6, if_neg (by omega), a6, if_neg (by omega), b3, if_neg (by omega), if_neg (by omega), b3, if_neg (by omega), if_neg (by omega), hG.2.1, hG.2.2.1]
      exact ⟨rfl, hG.2.2.2.1⟩
    · exact d1.ext b4
    · unfold SetupAt
      rw [e7, sk' S (by omega), sk' (S + 1) (by omega), sk' (S + 2) (by omega), sk' (S + 3) (by omega), sk' (S + 4) (by omega), sk' (S + 5) (by omega), sk' (S + 6) (by omega), sk' (S + 7) (by omega), sk' (S + 8) (by omega), sk' (S + 9) (by omega), sk' (S + 10) (by omega), sk' (S + 11) (by omega)]
      exact SetupOK.ext d1 d2 b4
    · have w : ∀ x, x < 218 → gI Mo 98 (0 + x) = if x = 0 then gI Yf 97 4 else if 2 ≤ x ∧ x < 14 then gI Yf 97 (137 + x) else 0 := fun x hx => by rw [show 0 + x = x by omega]; exact b5 x hx
      unfold StateAt
      rw [ck 3 (by omega), ck 4 (by omega), ck 5 (by omega), a7, a8]
      refine ⟨fun i hi => ?_, ?_, ?_, ?_, ?_, fun r hr => ?_, fun r hr => ?_, fun r hr p hp => ⟨?_, fun _ => a9 _ (by omega)⟩⟩
      · show 0 ≤ (gI Mo 98 (0 + i)).toInt
        rw [w i hi]
        split
        · exact d1.1 4 (by omega)
        · split
          · exact d1.1 (137 + i) (by omega)
          · decide
      · show _ = gI Mo 98 (0 + 0)
        rw [w 0 (by omega), if_pos rfl]
        exact d2.2.2.2.2.1
      · show vN (gI Mo 98 (0 + 0)) ≤ _
        rw [w 0 (by omega), if_pos rfl]
        exact d1.2.2.2.2.2.1
      · show _ = gI Mo 98 (0 + 1)
        rw [w 1 (by omega), if_neg (by omega), if_neg (by omega)]
      · show vN (gI Mo 98 (0 + 1)) < _
        rw [w 1 (by omega), if_neg (by omega), if_neg (by omega)]
        decide
      · show gI M6 5 r = gI Mo 98 (0 + (2 + r)) ∧ vN (gI Mo 98 (0 + (2 + r))) < _ ∧ (_ → gI Mo 98 (0 + (2 + r)) = 0)
        rw [w (2 + r) (by omega), if_neg (by omega), if_pos (by omega), show 137 + (2 + r) = 139 + r by omega, a10 r hr, b4 1 (by omega)]
        exact ⟨d2.2.2.2.2.2.2.2.2.2.1 r hr, d1.2.2.2.2.2.2.2.2.2.2.2 r hr⟩
      · show vN (gI Mo 98 (0 + (14 + r))) < _
        rw [w (14 + r) (by omega), if_neg (by omega), if_neg (by omega)]
        decide
      · show scR (gI M6 4 (16 * r + p)) ((vN (gI Mo 98 (0 + (14 + r)))).testBit p) (gI Mo 98 (0 + (26 + (16 * r + p))))
        rw [w (14 + r) (by omega), if_neg (by omega), if_neg (by omega), w (26 + (16 * r + p)) (by omega), if_neg (by omega), if_neg (by omega), a9 _ (by omega), show vN 0 = 0 from rfl, Nat.zero_testBit]
        exact ⟨by decide, by decide, by decide, by decide⟩
    · obtain ⟨hh, nx, q1, q2, q3, q4, q5, q6⟩ := r8
      refine ⟨0, nx, by omega, q2, by rw [ck 6 (by omega), a11, if_pos rfl]; rfl, by rw [b3, if_pos rfl]; rfl, by rw [ck 6 (by omega), a11, if_neg (by omega), fA.1 6 (by omega) (by omega)]; exact q5, fun i hi => by omega⟩
  · rw [if_neg hg] at hread
    obtain ⟨Yf, g1, g2, g3, g4⟩ := model (sI Xf 1 1 0) (by rw [sI_ne _ _ (by omega), fA.1 95 (by omega) (by omega)]) (by rw [sI_ne _ _ (by omega), fA.1 100 (by omega) (by omega)])
    have hB : BadR Xf Yf := g4.elim (fun ⟨s, q, _⟩ => absurd q.2.1 hg) id
    have h11 : ¬ gI (sI Yf 95 7 0) 95 11 = 0 := by
      rw [sI_at, if_neg (by omega), hB.2.2.2.1]
      decide
    have ck : ∀ k, k ≠ 95 → k ≠ 97 → gI (sI (sI Yf 95 7 0) 95 0 1) k = gI (sI Xf 1 1 0) k := fun k k1 k2 => by rw [sI_ne _ _ k1, sI_ne _ _ k1, g2.1 k k1 k2]
    have cm : ∀ k, k ≠ 95 → k ≠ 97 → k ≠ 1 → ¬ (S ≤ k ∧ k ≤ S + 11) → gI (sI (sI Yf 95 7 0) 95 0 1) k = gI m k := fun k k1 k2 k3 k4 => by rw [ck k k1 k2, sI_ne _ _ k3, fA.1 k k3 k4]
    have rk : ∀ k j, gR (sI (sI Yf 95 7 0) 95 0 1) k j = gR m k j := fun k j => (g2.2.2.1 k j).trans (fA.2.2.1 k j)
    have e96 := cm 96 (by omega) (by omega) (by omega) (by omega)
    refine ⟨1, sI Xf 1 1 0, 0, sI (sI Yf 95 7 0) 95 0 1, ?_, ?_, by rw [sI_at, if_pos rfl], fun q => absurd q (by decide), ?_, ?_, ?_, ?_, ?_, ?_, ?_, ?_⟩
    · unfold f_L_load
      have : f_X9_load N m = some (.inr 1, sI Xf 1 1 0) := by
        unfold f_X9_load
        rw [b2_of hread, wr_eq, if_pos rfl]
      rw [this]
      rfl
    · rw [g1]
      unfold B_X10_load_85
      rw [wr_eq, if_neg h11]
      rfl
    · unfold RefOK
      rw [rk, rk]
      exact r1
    · unfold ChOK ChAt at r2 ⊢
      rw [rk, rk, rk, rk, rk, rk, rk, rk]
      exact r2
    · exact ⟨0, by omega, by rw [ck 1 (by omega) (by omega), sI_at, if_pos rfl]; rfl, by rw [sI_at, if_neg (by omega), sI_at, if_pos rfl]; rfl, fun i hi => by omega⟩
    · unfold ErrOK
      rw [ck 1 (by omega) (by omega), sI_at, if_neg (by omega), sI_at, if_neg (by omega), sI_at, if_neg (by omega), sI_at, if_neg (by omega), sI_at, if_neg (by omega), sI_at, if_neg (by omega)]
      exact ⟨hB.2.1, hB.2.2.1⟩
    · rw [e96]
      exact r5
    · unfold SetupAt at r6 ⊢
      rw [hS7] at r6
      rw [rk, hS7, e96, cm S' (by omega) (by omega) (by omega) (by omega), cm (S' + 1) (by omega) (by omega) (by omega) (by omega), cm (S' + 2) (by omega) (by omega) (by omega) (by omega), cm (S' + 3) (by omega) (by omega) (by omega) (by omega), cm (S' + 4) (by omega) (by omega) (by omega) (by omega), cm (S' + 5) (by omega) (by omega) (by omega) (by omega), cm (S' + 6) (by omega) (by omega) (by omega) (by omega), cm (S' + 7) (by omega) (by omega) (by omega) (by omega), cm (S' + 8) (by omega) (by omega) (by omega) (by omega), cm (S' + 9) (by omega) (by omega) (by omega) (by omega), cm (S' + 10) (by omega) (by omega) (by omega) (by omega), cm (S' + 11) (by omega) (by omega) (by omega) (by omega)]
      exact r6
    · unfold StateAt at r7 ⊢
      rw [e96, cm 3 (by omega) (by omega) (by omega) (by omega), cm 4 (by omega) (by omega) (by omega) (by omega), cm 5 (by omega) (by omega) (by omega) (by omega), cm 98 (by omega) (by omega) (by omega) (by omega)]
      exact r7
    · obtain ⟨hh, nx, q1, q2, q3, q4, q5, q6⟩ := r8
      have e6 := cm 6 (by omega) (by omega) (by omega) (by omega)
      refine ⟨hh, nx, q1, q2, by rw [e6]; exact q3, ?_, by rw [e6]; exact q5, fun i hi => ?_⟩
      · rw [sI_at, if_neg (by omega), sI_at, if_neg (by omega), g2.2.1 5 (by omega) (by omega), sI_ne _ _ (by omega), fA.1 95 (by omega) (by omega)]
        exact q4
      · have := q6 i hi
        unfold StateAt at this ⊢
        rw [e96, cm (8 + 3 * ((nx + 9 - i) % 10)) (by omega) (by omega) (by omega) (by omega), cm (8 + 3 * ((nx + 9 - i) % 10) + 1) (by omega) (by omega) (by omega) (by omega), cm (8 + 3 * ((nx + 9 - i) % 10) + 2) (by omega) (by omega) (by omega) (by omega), cm 99 (by omega) (by omega) (by omega) (by omega)]
        exact this
