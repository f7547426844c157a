/-! LINEFOR -/
def lfC (ln : Nat → Int32) (C : Int32 → Nat) (num : Int32) : Nat → Nat → Int32
  | 0, _ => -1
  | d + 1, i => if 0 ≤ ln i then (if nI (C (ln i)) < num then lfC ln C num d (i + 1) else ln i) else -1
def lfM (ln : Nat → Int32) (C : Int32 → Nat) (num : Int32) : Nat → Nat → Int32 → Int32
  | 0, _, b => b
  | d + 1, i, b => if ln i ≤ b then lfM ln C num d (i + 1) b else lfM ln C num d (i + 1) (if nI (C (ln i)) < num then b else ln i)
theorem lfM_s (ln : Nat → Int32) (C : Int32 → Nat) (num : Int32) (d i : Nat) (b : Int32) : lfM ln C num (d + 1) i b = if ln i ≤ b then lfM ln C num d (i + 1) b else lfM ln C num d (i + 1) (if nI (C (ln i)) < num then b else ln i) := rfl
theorem lfC_s (ln : Nat → Int32) (C : Int32 → Nat) (num : Int32) (d i : Nat) : lfC ln C num (d + 1) i = if 0 ≤ ln i then (if nI (C (ln i)) < num then lfC ln C num d (i + 1) else ln i) else -1 := rfl
theorem lfM_stay {ln : Nat → Int32} {C : Int32 → Nat} {num b : Int32} : ∀ d i, (∀ j, i ≤ j → j < i + d → ln j ≤ b) → lfM ln C num d i b = b
  | 0, _, _ => rfl
  | d + 1, i, h => by
    rw [lfM_s, if_pos (h i (by omega) (by omega))]
    exact lfM_stay d (i + 1) (fun j h1 h2 => h j (by omega) (by omega))
theorem le_m1 (x : Int32) : x ≤ -1 ↔ ¬ 0 ≤ x := by
  rw [Int32.le_iff_toInt_le, Int32.le_iff_toInt_le, show (-1 : Int32).toInt = -1 from rfl, show (0 : Int32).toInt = 0 from rfl]
  omega
theorem lf_eq {ln : Nat → Int32} {C : Int32 → Nat} {num : Int32} : ∀ d i, (∀ j k, i ≤ j → j ≤ k → k < i + d → ln k ≤ ln j) → lfM ln C num d i (-1) = lfC ln C num d i
  | 0, _, _ => rfl
  | d + 1, i, h => by
    have ih := lf_eq (ln := ln) (C := C) (num := num) d (i + 1) (fun j k h1 h2 h3 => h j k (by omega) h2 (by omega))
    rw [lfM_s, lfC_s]
    by_cases h0 : 0 ≤ ln i
    · rw [if_neg (fun e => (le_m1 _).mp e h0), if_pos h0]
      by_cases hc : nI (C (ln i)) < num
      · rw [if_pos hc, if_pos hc]
        exact ih
      · rw [if_neg hc, if_neg hc]
        exact lfM_stay d (i + 1) (fun j h1 h2 => h i j (by omega) (by omega) (by omega))
    · rw [if_pos ((le_m1 _).mpr h0), if_neg h0]
      exact lfM_stay d (i + 1) (fun j h1 h2 => Int32.le_trans (h i j (by omega) (by omega) (by omega)) ((le_m1 _).mpr h0))
theorem bfd_le (f : Nat → Nat → Int) (a b : Nat) : ∀ d k, bfd f a b d k = true → f k b ≤ f k a
  | 0, k, h => by
    unfold bfd at h
    have := of_decide_eq_true h
    omega
  | d + 1, k, h => by
    unfold bfd at h
    by_cases e : f k a = f k b
    · omega
    · rw [if_neg e] at h
      have := of_decide_eq_true h
      omega
def lnO (nr : Nat → Int32) (o : Nat → Nat) (i : Nat) : Int32 := if (100000 : Int32) < nr (o i) then 100000 else nr (o i)
theorem lnO_mono {m : Mem} {o : Nat → Nat} (h : Rel m) (ho : oOK (rn m) (bf m) (nQ m) o) : ∀ j k, j ≤ k → k < cO m → lnO (nrm m) o k ≤ lnO (nrm m) o j := by
  intro j k hjk hk
  by_cases e : j = k
  · subst e
    exact Int32.le_refl _
  · obtain ⟨a1, a2, a3⟩ := ho j (by unfold cO at hk; omega)
    obtain ⟨b1, b2, b3⟩ := ho k hk
    have hQ := h.b.Q.2
    have hb := (rk_inj (bf_irr m) (bf_tr m) (fun a b => bf_tot m) b1 a1 b2 a2).1.mpr (by omega)
    have hl : nm (sv m) (o k) ≤ nm (sv m) (o j) := bfd_le _ _ _ _ _ hb
    have c1 := nm_le (sv m) (show o j < 16 by omega)
    have c2 := nm_le (sv m) (show o k < 16 by omega)
    unfold lnO nrm
    have L : ∀ z : Int, zB z → ((100000 : Int32) < zI z ↔ 100000 < z) := fun z hz => zI_lt (a := 100000) (by unfold zB; omega) hz
    have zj : zB (nm (sv m) (o j)) := by unfold zB; omega
    have zk : zB (nm (sv m) (o k)) := by unfold zB; omega
    by_cases h1 : (100000 : Int32) < zI (nm (sv m) (o k))
    · rw [if_pos h1, if_pos ((L _ zj).mpr (by have := (L _ zk).mp h1; omega))]
      exact Int32.le_refl _
    · rw [if_neg h1]
      by_cases h2 : (100000 : Int32) < zI (nm (sv m) (o j))
      · rw [if_pos h2]
        exact Int32.not_lt.mp h1
      · rw [if_neg h2]
        exact (zI_le zk zj).mpr hl
/-- how many get something with a line -/
def fun' (t nr : Nat → Int32) (o : Nat → Nat) (c n : Nat) (mode l : Int32) : Nat := cnt (wn (fiS t nr o c n mode l).2 16).testBit 16
theorem c_line {N : Nat} (hN : 17 < N) {nr : Nat → Int32} {o : Nat → Nat} {c : Nat} (mode num : Int32) : ∀ d n i M, Rel M → ordC M nr o c → (∀ k, k < c → o k < nQ M) → i + d = c → d < n →
    ∃ M', (L_X9_lineFor_43 N n mode num (nI i) M).bind (fun x9 => match x9 with | .inl (m_12) => some ((.inl (-1 : Int32) : Int32 ⊕ Nat), m_12) | .inr (.inl (m_12)) => some (.inl (-1 : Int32), m_12) | .inr (.inr ((v4_12, m_12))) => some (.inl v4_12, m_12)) = some (.inl (lfC (lnO nr o) (fun' (gI M 96) nr o c (nP M) mode) num d i), M') ∧ F49 M M' := by
  intro d
  induction d with
  | zero =>
    intro n i M h ho hq hi hn
    have hc := ho.2.1
    obtain ⟨n, rfl⟩ : ∃ k, n = k + 1 := ⟨n - 1, by omega⟩
    refine ⟨M, ?_, F49.refl M⟩
    show (T_X9_lineFor_43 N (L_X9_lineFor_43 N n) _ _ _ _).bind _ = _
    unfold T_X9_lineFor_43
    rw [ho.1, if_pos (nI_le (by omega) (by omega))]
    rfl
  | succ d ih =>
    intro n i M h ho hq hi hn
    have hQ := h.b.Q.2
    have hc := ho.2.1
    obtain ⟨n, rfl⟩ : ∃ k, n = k + 1 := ⟨n - 1, by omega⟩
    obtain ⟨o1, o2, o3⟩ := ho.2.2 i (by omega)
    rw [lfC_s]
    show ∃ M', (T_X9_lineFor_43 N (L_X9_lineFor_43 N n) _ _ _ _).bind _ = _ ∧ _
    unfold T_X9_lineFor_43
    rw [ho.1, if_neg (nI_ge (by omega) (by omega)), gd_t (inb_nI (by omega) (by omega)), nI_clamp (by omega), o1, gd_t (inb_nI (by omega) (by omega)), nI_clamp (by omega), o3]
    change ∃ M', (if 0 ≤ lnO nr o i then b1 (f_X1_distribute N (gR M 0 7) mode (lnO nr o i) M) (fun m_5 => gd (kd (gR m_5 0 7) == 6) (b2 (f_X1_winners N (gI m_5 (gR m_5 0 7) 2) m_5) (fun r_7 m_7 => b2 (f_J6_bitCount_0f7a4 N r_7 m_7) (fun r_8 m_8 => (if r_8 < num then L_X9_lineFor_43 N n mode num (nI i + 1) m_8 else some (.inr (.inr (lnO nr o i, m_8)))))))) else some (.inr (.inl M))).bind _ = _ ∧ _
    by_cases h0 : 0 ≤ lnO nr o i
    · rw [if_pos h0, if_pos h0]
      obtain ⟨M1, a1, a2, a3, a4, a5⟩ := c_dist hN mode (lnO nr o i) h ho
      have h1 := h.core a2.core
      have hwl := wn_lt (fiS (gI M 96) nr o c (nP M) mode (lnO nr o i)).2 16 (Nat.le_refl _)
      have hwq : wn (fiS (gI M 96) nr o c (nP M) mode (lnO nr o i)).2 16 = wn (fiS (gI M 96) nr o c (nP M) mode (lnO nr o i)).2 (nQ M) := by
        have := wn_more (sh := (fiS (gI M 96) nr o c (nP M) mode (lnO nr o i)).2) (a := nQ M) (16 - nQ M) (fun j h1 h2 => fiS_out (fun k hk => by have := hq k hk; omega))
        rw [show nQ M + (16 - nQ M) = 16 by omega] at this
        exact this
      have hwin : f_X1_winners N (nI (nQ M)) M1 = some (nI (wn (fiS (gI M 96) nr o c (nP M) mode (lnO nr o i)).2 16), M1) := by
        rw [hwq]
        exact c_winners (by omega) hQ a4
      rw [b1_of a1, gd_t (st_k h1.b.s), h1.b.cQ, a2.v.q, b2_of hwin, b2_of (c_bitCount N hwl M1), nI_1]
      change ∃ M', (if nI (fun' (gI M 96) nr o c (nP M) mode (lnO nr o i)) < num then L_X9_lineFor_43 N n mode num (nI (i + 1)) M1 else _).bind _ = _ ∧ _
      by_cases hlt : nI (fun' (gI M 96) nr o c (nP M) mode (lnO nr o i)) < num
      · rw [if_pos hlt, if_pos hlt]
        obtain ⟨M2, b1, b2⟩ := ih n (i + 1) M1 h1 (ho.keep a2) (fun k hk => by rw [a2.v.q]; exact hq k hk) (by omega) (by omega)
        rw [a2.v.1, a2.v.p] at b1
        exact ⟨M2, b1, a2.trans b2⟩
      · rw [if_neg hlt, if_neg hlt]
        exact ⟨M1, rfl, a2⟩
    · rw [if_neg h0, if_neg h0]
      exact ⟨M, rfl, F49.refl M⟩
theorem m_line {N : Nat} (hN : 17 < N) {nr : Nat → Int32} {o : Nat → Nat} {c : Nat} (mode num : Int32) : ∀ d n i b M, Rel M → ordM M nr o c → i + d = c → d < n →
    ∃ M', L_X10_lineFor_46 N n mode num b (nI i) M = some (lfM (lnO nr o) (fun' (gI M 96) nr o c (nP M) mode) num d i b, M') ∧ YE M M' := by
  intro d
  induction d with
  | zero =>
    intro n i b M h ho hi hn
    have hc := ho.2.1
    obtain ⟨n, rfl⟩ : ∃ k, n = k + 1 := ⟨n - 1, by omega⟩
    refine ⟨M, ?_, YE.refl M⟩
    show T_X10_lineFor_46 N (L_X10_lineFor_46 N n) _ _ _ _ _ = _
    unfold T_X10_lineFor_46
    rw [ho.1, if_pos (nI_le (by omega) (by omega))]
    rfl
  | succ d ih =>
    intro n i b M h ho hi hn
    have hc := ho.2.1
    have hQ := h.b.Q.2
    obtain ⟨n, rfl⟩ : ∃ k, n = k + 1 := ⟨n - 1, by omega⟩
    obtain ⟨o1, o2, o3⟩ := ho.2.2 i (by omega)
    have h89 : ∃ M', B_X10_lineFor_89 N (L_X10_lineFor_46 N n) mode num b (nI i) (lnO nr o i) M = some (lfM (lnO nr o) (fun' (gI M 96) nr o c (nP M) mode) num (d + 1) i b, M') ∧ YE M M' := by
      rw [lfM_s]
      unfold B_X10_lineFor_89 B_X10_lineFor_121
      by_cases hle : lnO nr o i ≤ b
      · rw [if_pos hle, if_pos hle, nI_1]
        exact ih n (i + 1) b M h ho (by omega) (by omega)
      · rw [if_neg hle, if_neg hle]
        obtain ⟨M1, a1, a2, a6, a3, a4, a5⟩ := m_fundsAll hN mode (lnO nr o i) h ho
        have h1 := h.core a2.core
        have hwl := wn_lt (fiS (gI M 96) nr o c (nP M) mode (lnO nr o i)).2 16 (Nat.le_refl _)
        rw [b1_of a1, b2_of (m_fundedNow (by omega) a4), b2_of (m_bits (by omega) hwl M1), nI_1]
        change ∃ M', (if nI (fun' (gI M 96) nr o c (nP M) mode (lnO nr o i)) < num then L_X10_lineFor_46 N n mode num b (nI (i + 1)) M1 else L_X10_lineFor_46 N n mode num (lnO nr o i) (nI (i + 1)) M1) = _ ∧ _
        by_cases hlt : nI (fun' (gI M 96) nr o c (nP M) mode (lnO nr o i)) < num
        · rw [if_pos hlt, if_pos hlt]
          obtain ⟨M2, b1, b2⟩ := ih n (i + 1) b M1 h1 a6 (by omega) (by omega)
          rw [a2.v.1, a2.v.p] at b1
          exact ⟨M2, b1, a2.trans b2⟩
        · rw [if_neg hlt, if_neg hlt]
          obtain ⟨M2, b1, b2⟩ := ih n (i + 1) (lnO nr o i) M1 h1 a6 (by omega) (by omega)
          rw [a2.v.1, a2.v.p] at b1
          exact ⟨M2, b1, a2.trans b2⟩
    show ∃ M', T_X10_lineFor_46 N (L_X10_lineFor_46 N n) _ _ _ _ _ = _ ∧ _
    unfold T_X10_lineFor_46
    rw [ho.1, if_neg (nI_ge (by omega) (by omega)), gd_t (inb_nI (by omega) (by omega)), nI_clamp (by omega), o1, gd_t (inb_nI (by omega) (by omega)), nI_clamp (by omega), o3]
    unfold lnO at h89
    by_cases hl : (100000 : Int32) < nr (o i)
    · rw [if_pos hl] at h89
      rw [if_neg (by rw [Int32.not_le]; exact hl)]
      exact h89
    · rw [if_neg hl] at h89
      rw [if_pos (Int32.not_lt.mp hl)]
      exact h89
theorem op_lineFor {N : Nat} (hN : 17 < N) : Op_lineFor N := by
  intro m hR a b
  by_cases ha : inR a 3 = true
  · by_cases hb1 : b < 1
    · refine OpI.no hR (v := 1) (w := 0) (by decide) ?_ ?_ (Or.inl rfl)
      · unfold f_L_lineFor f_X9_lineFor B_X9_lineFor_15
        rw [x1_of (by rw [c_mode, if_pos ha]), if_pos hb1]
        rfl
      · unfold f_X10_lineFor B_X10_lineFor_24 B_X10_lineFor_25
        rw [b2_of (show f_X10_in N a 0 2 m = _ from rng_m N (v := a) (n := 3) (by omega) m), if_pos ha, if_neg (by decide), b2_of (in_eq N b 1 16 m), if_pos hb1, if_pos rfl, rs_no _ (by decide)]
    · by_cases hb2 : b ≤ 16
      · obtain ⟨M, e1, u⟩ := c_update hN hR
        have hM := hR.core u.1.core
        have hQM := hM.b.Q.2
        have hcl : cO m ≤ nQ m := cnt_le _ _
        have hoC := u.ord hR
        have hoO := u.o
        have hq' : ∀ k, k < cO m → od M k < nQ M := fun k hk => by rw [u.1.q]; exact (hoO k hk).1
        have hQm := hR.b.Q.2
        obtain ⟨M1, c1, c2⟩ := c_line hN (nr := nrm m) (o := od M) (c := cO m) a b (cO m) N 0 M hM hoC hq' (by omega) (by omega)
        rw [u.1.v.1, u.1.v.p] at c1
        rw [← lf_eq (cO m) 0 (fun j k h1 h2 h3 => lnO_mono hR hoO j k h2 (by omega))] at c1
        generalize hr : lfM (lnO (nrm m) (od M)) (fun' (gI m 96) (nrm m) (od M) (cO m) (nP m) a) b (cO m) 0 (-1) = r at c1
        have v0 := Y0.v M1 r.toInt64 0
        have uF : FunE m M1 := FunE.of u.1 c2
        have hY := Y0.rel (hR.core uF.core) r.toInt64 0
        obtain ⟨Y1, y1, y2, y3⟩ := m_lays hN hY (o := od M) (by rw [v0.zrn, v0.zbf, v0.q, uF.v.zrn, uF.v.zbf, uF.v.q]; exact hoO)
        have y3' : ordM Y1 (nrm m) (od M) (cO m) := by
          have e1 : (fun p => zI (nm (sv (Y0 M1 r.toInt64 0)) p)) = nrm m := by
            funext p
            unfold nrm
            rw [v0.zsv, uF.v.zsv]
          have e2 : cnt (rn (Y0 M1 r.toInt64 0)) (nQ (Y0 M1 r.toInt64 0)) = cO m := by
            unfold cO
            rw [v0.zrn, v0.q, uF.v.zrn, uF.v.q]
          rw [e1, e2] at y3
          exact y3
        have hY1 := hY.core y2.core
        obtain ⟨Y2, z1, z2⟩ := m_line hN (nr := nrm m) (o := od M) (c := cO m) a b (cO m) N 0 (-1) Y1 hY1 y3' (by omega) (by omega)
        rw [y2.v.1, y2.v.p, v0.1, v0.p, uF.v.1, uF.v.p, hr] at z1
        refine OpI.fun' hR uF (b := r) ?_ ?_ (y2.trans z2)
        · unfold f_L_lineFor
          refine (xh_of (a := r) (m := M1) ?_).trans rfl
          unfold f_X9_lineFor
          rw [x1_of (by rw [c_mode, if_pos ha]), if_neg hb1, if_pos hb2, b1_of e1]
          exact c1
        · unfold f_X10_lineFor B_X10_lineFor_25
          rw [b2_of (show f_X10_in N a 0 2 (sJ M1 108 0 r.toInt64) = _ from rng_m N (v := a) (n := 3) (by omega) _), if_pos ha, if_neg (by decide), b2_of (in_eq N b 1 16 _), if_neg hb1, if_neg (Int32.not_lt.mpr hb2), if_neg (by decide), rs_ok]
          change b1 (f_X10_laysOrder N (Y0 M1 r.toInt64 0)) _ = _
          rw [b1_of y1, l2_of (show L_X10_lineFor_46 N N a b (-1) 0 Y1 = _ from z1)]
      · refine OpI.no hR (v := 1) (w := 0) (by decide) ?_ ?_ (Or.inl rfl)
        · unfold f_L_lineFor f_X9_lineFor B_X9_lineFor_15
          rw [x1_of (by rw [c_mode, if_pos ha]), if_neg hb1, if_neg hb2]
          rfl
        · unfold f_X10_lineFor B_X10_lineFor_24 B_X10_lineFor_25
          rw [b2_of (show f_X10_in N a 0 2 m = _ from rng_m N (v := a) (n := 3) (by omega) m), if_pos ha, if_neg (by decide), b2_of (in_eq N b 1 16 m), if_neg hb1, if_pos (Int32.not_le.mp hb2), if_pos rfl, rs_no _ (by decide)]
  · refine OpI.no hR (v := 1) (w := 0) (by decide) ?_ ?_ (Or.inl rfl)
    · unfold f_L_lineFor f_X9_lineFor
      rw [x1_th (by rw [c_mode, if_neg ha])]
      rfl
    · unfold f_X10_lineFor B_X10_lineFor_24 B_X10_lineFor_25
      rw [b2_of (show f_X10_in N a 0 2 m = _ from rng_m N (v := a) (n := 3) (by omega) m), if_neg ha, if_pos rfl, rs_no _ (by decide)]
