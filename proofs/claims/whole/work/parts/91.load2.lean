/-! LOAD: how both begin, and the reading as a whole -/
def Sm (M M' : Mem) : Prop := (∀ k j, gR M' k j = gR M k j) ∧ (∀ k j, gJ M' k j = gJ M k j) ∧ (∀ k j, gD M' k j = gD M k j)
theorem Sm.refl (M : Mem) : Sm M M := ⟨fun _ _ => rfl, fun _ _ => rfl, fun _ _ => rfl⟩
theorem Sm.trans {a b c : Mem} (h : Sm a b) (h' : Sm b c) : Sm a c := ⟨fun k j => (h'.1 k j).trans (h.1 k j), fun k j => (h'.2.1 k j).trans (h.2.1 k j), fun k j => (h'.2.2 k j).trans (h.2.2 k j)⟩
theorem Sm.s (M : Mem) (k j : Nat) (v : Int32) : Sm M (sI M k j v) := ⟨fun _ _ => rfl, fun _ _ => rfl, fun _ _ => rfl⟩
theorem z17 {N : Nat} : ∀ d n i M, i + d = 151 → d < n → ∃ M', L_X10_load_17 N n (nI i) M = some M' ∧ (∀ k, k ≠ 97 → gI M' k = gI M k) ∧ (∀ x, gI M' 97 x = if i ≤ x ∧ x < 151 then 0 else gI M 97 x) ∧ Sm M M' := by
  intro d
  induction d with
  | zero =>
    intro n i M hi hn
    obtain ⟨n, rfl⟩ : ∃ k, n = k + 1 := ⟨n - 1, by omega⟩
    refine ⟨M, ?_, fun _ _ => rfl, fun x => by rw [if_neg (by omega)], Sm.refl M⟩
    show T_X10_load_17 N (L_X10_load_17 N n) _ _ = _
    unfold T_X10_load_17
    rw [if_pos (show (151 : Int32) ≤ nI i from nI_le (a := 151) (by omega) (by omega))]
  | succ d ih =>
    intro n i M hi hn
    obtain ⟨n, rfl⟩ : ∃ k, n = k + 1 := ⟨n - 1, by omega⟩
    obtain ⟨M', a1, a2, a3, a4⟩ := ih n (i + 1) (sI M 97 i 0) (by omega) (by omega)
    refine ⟨M', ?_, fun k hk => by rw [a2 k hk, sI_ne _ _ hk], fun x => ?_, (Sm.s M 97 i 0).trans a4⟩
    · show T_X10_load_17 N (L_X10_load_17 N n) _ _ = _
      unfold T_X10_load_17
      rw [if_neg (show ¬ (151 : Int32) ≤ nI i from nI_ge (b := 151) (by omega) (by omega)), gd_t (inb_nI (by omega) (by omega)), nI_clamp (by omega), wr_eq, nI_1]
      exact a1
    · rw [a3, sI_at]
      by_cases q : x = i
      · rw [if_neg (by omega), if_pos q, if_pos (by omega)]
      · rw [if_neg q]
        by_cases q2 : i + 1 ≤ x ∧ x < 151
        · rw [if_pos q2, if_pos (by omega)]
        · rw [if_neg q2, if_neg (by omega)]
theorem z105 {N : Nat} : ∀ d n i M, i + d = 151 → d < n → ∃ M', L_X10_load_105 N n (nI i) M = some M' ∧ (∀ k, k ≠ 96 → gI M' k = gI M k) ∧ (∀ x, gI M' 96 x = if i ≤ x ∧ x < 151 then gI M 97 x else gI M 96 x) ∧ Sm M M' := by
  intro d
  induction d with
  | zero =>
    intro n i M hi hn
    obtain ⟨n, rfl⟩ : ∃ k, n = k + 1 := ⟨n - 1, by omega⟩
    refine ⟨M, ?_, fun _ _ => rfl, fun x => by rw [if_neg (by omega)], Sm.refl M⟩
    show T_X10_load_105 N (L_X10_load_105 N n) _ _ = _
    unfold T_X10_load_105
    rw [if_pos (show (151 : Int32) ≤ nI i from nI_le (a := 151) (by omega) (by omega))]
  | succ d ih =>
    intro n i M hi hn
    obtain ⟨n, rfl⟩ : ∃ k, n = k + 1 := ⟨n - 1, by omega⟩
    obtain ⟨M', a1, a2, a3, a4⟩ := ih n (i + 1) (sI M 96 i (gI M 97 i)) (by omega) (by omega)
    refine ⟨M', ?_, fun k hk => by rw [a2 k hk, sI_ne _ _ hk], fun x => ?_, (Sm.s M 96 i _).trans a4⟩
    · show T_X10_load_105 N (L_X10_load_105 N n) _ _ = _
      unfold T_X10_load_105
      rw [if_neg (show ¬ (151 : Int32) ≤ nI i from nI_ge (b := 151) (by omega) (by omega)), gd_t (inb_nI (by omega) (by omega)), nI_clamp (by omega), wr_eq, nI_1]
      exact a1
    · rw [a3, sI_at, sI_ne _ _ (by omega)]
      by_cases q : x = i
      · rw [if_neg (by omega), if_pos q, if_pos (by omega), q]
      · rw [if_neg q]
        by_cases q2 : i + 1 ≤ x ∧ x < 151
        · rw [if_pos q2, if_pos (by omega)]
        · rw [if_neg q2, if_neg (by omega)]
theorem z132 {N : Nat} : ∀ d n i M, i + d = 218 → d < n → ∃ M', L_X10_load_132 N n (nI i) M = some M' ∧ (∀ k, k ≠ 98 → gI M' k = gI M k) ∧ (∀ x, gI M' 98 x = if i ≤ x ∧ x < 218 then 0 else gI M 98 x) ∧ Sm M M' := by
  intro d
  induction d with
  | zero =>
    intro n i M hi hn
    obtain ⟨n, rfl⟩ : ∃ k, n = k + 1 := ⟨n - 1, by omega⟩
    refine ⟨M, ?_, fun _ _ => rfl, fun x => by rw [if_neg (by omega)], Sm.refl M⟩
    show T_X10_load_132 N (L_X10_load_132 N n) _ _ = _
    unfold T_X10_load_132
    rw [if_pos (show (218 : Int32) ≤ nI i from nI_le (a := 218) (by omega) (by omega))]
  | succ d ih =>
    intro n i M hi hn
    obtain ⟨n, rfl⟩ : ∃ k, n = k + 1 := ⟨n - 1, by omega⟩
    obtain ⟨M', a1, a2, a3, a4⟩ := ih n (i + 1) (sI M 98 i 0) (by omega) (by omega)
    refine ⟨M', ?_, fun k hk => by rw [a2 k hk, sI_ne _ _ hk], fun x => ?_, (Sm.s M 98 i 0).trans a4⟩
    · show T_X10_load_132 N (L_X10_load_132 N n) _ _ = _
      unfold T_X10_load_132
      rw [if_neg (show ¬ (218 : Int32) ≤ nI i from nI_ge (b := 218) (by omega) (by omega)), gd_t (inb_nI (by omega) (by omega)), nI_clamp (by omega), wr_eq, nI_1]
      exact a1
    · rw [a3, sI_at]
      by_cases q : x = i
      · rw [if_neg (by omega), if_pos q, if_pos (by omega)]
      · rw [if_neg q]
        by_cases q2 : i + 1 ≤ x ∧ x < 218
        · rw [if_pos q2, if_pos (by omega)]
        · rw [if_neg q2, if_neg (by omega)]
theorem z166 {N : Nat} : ∀ d n i M, i + d = 12 → d < n → ∃ M', L_X10_load_166 N n (nI i) M = some M' ∧ (∀ k, k ≠ 98 → gI M' k = gI M k) ∧ (∀ x, gI M' 98 x = if 2 + i ≤ x ∧ x < 14 then gI M 96 (137 + x) else gI M 98 x) ∧ Sm M M' := by
  intro d
  induction d with
  | zero =>
    intro n i M hi hn
    obtain ⟨n, rfl⟩ : ∃ k, n = k + 1 := ⟨n - 1, by omega⟩
    refine ⟨M, ?_, fun _ _ => rfl, fun x => by rw [if_neg (by omega)], Sm.refl M⟩
    show T_X10_load_166 N (L_X10_load_166 N n) _ _ = _
    unfold T_X10_load_166
    rw [if_pos (show (12 : Int32) ≤ nI i from nI_le (a := 12) (by omega) (by omega))]
  | succ d ih =>
    intro n i M hi hn
    obtain ⟨n, rfl⟩ : ∃ k, n = k + 1 := ⟨n - 1, by omega⟩
    obtain ⟨M', a1, a2, a3, a4⟩ := ih n (i + 1) (sI M 98 (2 + i) (gI M 96 (139 + i))) (by omega) (by omega)
    refine ⟨M', ?_, fun k hk => by rw [a2 k hk, sI_ne _ _ hk], fun x => ?_, (Sm.s M 98 (2 + i) _).trans a4⟩
    · show T_X10_load_166 N (L_X10_load_166 N n) _ _ = _
      unfold T_X10_load_166
      rw [if_neg (show ¬ (12 : Int32) ≤ nI i from nI_ge (b := 12) (by omega) (by omega)), show (139 : Int32) + nI i = nI (139 + i) from nI_add 139 i, show (2 : Int32) + nI i = nI (2 + i) from nI_add 2 i, gd_t (inb_nI (by omega) (by omega)), gd_t (inb_nI (by omega) (by omega)), nI_clamp (n := 2 + i) (by omega), nI_clamp (n := 139 + i) (by omega), wr_eq, nI_1]
      exact a1
    · rw [a3, sI_at, sI_ne _ _ (by omega)]
      by_cases q : x = 2 + i
      · rw [if_neg (by omega), if_pos q, if_pos (by omega), show 137 + x = 139 + i by omega]
      · rw [if_neg q]
        by_cases q2 : 2 + (i + 1) ≤ x ∧ x < 14
        · rw [if_pos q2, if_pos (by omega)]
        · rw [if_neg q2, if_neg (by omega)]
def FrL (M Y : Mem) : Prop := (∀ k, k ≠ 95 → k ≠ 97 → gI Y k = gI M k) ∧ (∀ j, j ≠ 0 → ¬ (8 ≤ j ∧ j ≤ 11) → gI Y 95 j = gI M 95 j) ∧ Sm M Y
theorem m_start {N : Nat} (hN : 1000 < N) {T : Nat → Nat} {len : Nat} {M : Mem} (hY : TY T len M) : ∃ Y0, f_X10_load N M = l1 (L_X10_load_63 N N Y0) (fun m_16 => B_X10_load_85 N m_16) ∧ TY T len Y0 ∧ FrL M Y0 ∧ gI Y0 95 9 = 0 ∧ gI Y0 95 10 = -1 ∧ gI Y0 95 8 = 0 ∧ gI Y0 95 11 = 0 ∧ gI Y0 95 0 = 0 ∧ (∀ x, x < 151 → gI Y0 97 x = if x = 3 then 2 else if x = 6 then 20 else 0) := by
  obtain ⟨M', a1, a2, a3, a4⟩ := z17 (N := N) 151 N 0 (sI (sI (sI M 95 0 0) 95 9 0) 95 10 (-1)) (by omega) (by omega)
  have e : ∀ j, gI M' 95 j = if j = 10 then -1 else if j = 9 then 0 else if j = 0 then 0 else gI M 95 j := fun j => by
    rw [a2 95 (by omega), sI_at, sI_at, sI_at]
  have f : ∀ j, gI (sI (sI (sI (sI M' 97 3 2) 97 6 20) 95 8 0) 95 11 0) 95 j = if j = 11 then 0 else if j = 8 then 0 else if j = 10 then -1 else if j = 9 then 0 else if j = 0 then 0 else gI M 95 j := fun j => by
    rw [sI_at, sI_at, sI_ne _ _ (by omega), sI_ne _ _ (by omega), e]
  have fr : FrL M (sI (sI (sI (sI M' 97 3 2) 97 6 20) 95 8 0) 95 11 0) := by
    refine ⟨fun k k1 k2 => ?_, fun j j1 j2 => ?_, ?_⟩
    · rw [sI_ne _ _ k1, sI_ne _ _ k1, sI_ne _ _ k2, sI_ne _ _ k2, a2 k k2, sI_ne _ _ k1, sI_ne _ _ k1, sI_ne _ _ k1]
    · rw [f, if_neg (by omega), if_neg (by omega), if_neg (by omega), if_neg (by omega), if_neg (by omega)]
    · exact ((Sm.s M 95 0 0).trans ((Sm.s _ 95 9 0).trans (Sm.s _ 95 10 (-1)))).trans (a4.trans ((Sm.s _ 97 3 2).trans ((Sm.s _ 97 6 20).trans ((Sm.s _ 95 8 0).trans (Sm.s _ 95 11 0)))))
  refine ⟨_, ?_, ⟨hY.1, hY.2.1, by rw [fr.2.1 7 (by omega) (by omega)]; exact hY.2.2.1, fun i hi => by rw [fr.1 100 (by omega) (by omega)]; exact hY.2.2.2 i hi⟩, fr, by rw [f]; rfl, by rw [f]; rfl, by rw [f]; rfl, by rw [f]; rfl, by rw [f]; rfl, fun x hx => ?_⟩
  · unfold f_X10_load
    rw [wr_eq, wr_eq, wr_eq, l1_of (show L_X10_load_17 N N 0 _ = some M' from a1), wr_eq, wr_eq, wr_eq, wr_eq]
  · rw [sI_ne _ _ (by omega), sI_ne _ _ (by omega), sI_at, sI_at, a3]
    by_cases q6 : x = 6
    · rw [if_pos q6, if_neg (by omega), if_pos q6]
    · rw [if_neg q6, if_neg q6, if_pos (show 0 ≤ x ∧ x < 151 by omega)]
theorem c_start {N : Nat} (hN : 1000 < N) {T : Nat → Nat} {len S : Nat} (hS : S = 71 ∨ S = 83) {M : Mem} (hX : TX T len M) : ∃ X0, f_X8_read N S M = l1 (L_X8_read_25 N N S 0 X0) (fun m_12 => B_X8_read_61 N m_12) ∧ TX T len X0 ∧ FrA S M X0 ∧ CT T len (sk T len 0) X0 ∧ gI X0 1 2 = 0 ∧ gI X0 1 3 = -1 ∧ (∀ x, (x ≤ 2 ∨ 14 ≤ x ∧ x ≤ 17) → gI X0 S x = if x = 14 then 2 else if x = 15 then 20 else 0) ∧ (∀ j, j < 12 → gI X0 (S + 6) j = 0) := by
  have hk : kd (S + 6) = 12 ∧ ln (S + 6) = 12 := by rcases hS with rfl | rfl <;> decide
  obtain ⟨M1, a1, a2, a3, a4, a5, a6⟩ := c_fill (N := N) (k := S + 6) (L := 12) hk.1 hk.2 (by omega) (by omega) 0 (sI (sI (sI M S 0 0) S 1 0) S 2 0)
  have u0 : FrA S (sI (sI (sI M S 0 0) S 1 0) S 2 0) M1 := ⟨fun k k1 k2 => a2 k (by omega), by rw [a2 1 (by omega)], a4, a5, a6⟩
  have w : ∀ (A : Mem) (j : Nat) (v : Int32), FrA S A (sI A S j v) := fun A j v => FrA.s A v (by omega) (by omega)
  have u1 : FrA S M (sI (sI (sI (sI M1 S 14 2) S 15 20) S 16 0) S 17 0) := ((w M 0 0).trans ((w _ 1 0).trans (w _ 2 0))).trans (u0.trans ((w M1 14 2).trans ((w _ 15 20).trans ((w _ 16 0).trans (w _ 17 0)))))
  generalize hM2 : sI (sI (sI (sI M1 S 14 2) S 15 20) S 16 0) S 17 0 = M2 at *
  have uT : FrT M2 (sI (sI (sI M2 1 2 0) 1 3 (-1)) 1 6 0) := (FrT.s M2 (by omega)).trans ((FrT.s _ (by omega)).trans (FrT.s _ (by omega)))
  have hX2 : TX T len M2 := hX.a (by omega) u1
  have hX3 := hX2.keep uT
  obtain ⟨X0, x1, x2, x3, x4, x5⟩ := c_next (N := N) (by omega) hX3 (e := 0) (by omega) (by rw [sI_at, if_pos rfl]; rfl)
  have hS0 : ∀ k, k ≠ 1 → gI X0 k = gI M2 k := fun k hk => by rw [x2.1 k hk, uT.1 k hk]
  refine ⟨X0, ?_, hX3.keep x2, u1.trans ((uT.trans x2).a S), x5, ?_, ?_, fun x hx => ?_, fun j hj => ?_⟩
  · unfold f_X8_read f_X6_clear
    rw [gd_t (st_k hS), gd_t (st_k hS), wr_eq, wr_eq, wr_eq, st_rt hS (k := 8) (by omega) (by omega), show S + (8 - 2) = S + 6 from rfl, b1_of a1, wr_eq, wr_eq, wr_eq, wr_eq, hM2, b1_of rfl, wr_eq, wr_eq, wr_eq, b1_of x1]
  · rw [x3, sI_at, if_neg (by omega), sI_at, if_neg (by omega), sI_at, if_pos rfl]
  · rw [x4, sI_at, if_neg (by omega), sI_at, if_pos rfl]
  · rw [hS0 S (by omega), ← hM2, sI_at, sI_at, sI_at, sI_at, a2 S (by omega), sI_at, sI_at, sI_at]
    rcases (show x = 0 ∨ x = 1 ∨ x = 2 ∨ x = 14 ∨ x = 15 ∨ x = 16 ∨ x = 17 by omega) with rfl | rfl | rfl | rfl | rfl | rfl | rfl <;> rfl
  · rw [hS0 (S + 6) (by omega), ← hM2, sI_ne _ _ (by omega), sI_ne _ _ (by omega), sI_ne _ _ (by omega), sI_ne _ _ (by omega), a3, if_pos hj]
theorem sd0 {S : Nat} {X Y : Mem} (hx : ∀ x, (x ≤ 2 ∨ 14 ≤ x ∧ x ≤ 17) → gI X S x = if x = 14 then 2 else if x = 15 then 20 else 0) (hc : ∀ j, j < 12 → gI X (S + 6) j = 0) (hy : ∀ x, x < 151 → gI Y 97 x = if x = 3 then 2 else if x = 6 then 20 else 0) : SD S X Y := by
  have z : ∀ x, x < 151 → x ≠ 3 → x ≠ 6 → gI Y 97 x = 0 := fun x h1 h2 h3 => by rw [hy x h1, if_neg h2, if_neg h3]
  have t3 : gI Y 97 3 = 2 := by rw [hy 3 (by omega)]; rfl
  have t6 : gI Y 97 6 = 20 := by rw [hy 6 (by omega)]; rfl
  have n0 : vN 0 = 0 := rfl
  refine ⟨⟨fun k hk => ?_, ?_, ?_, ?_, ?_, ?_, ?_, ?_, fun i hi => ?_, fun r hr => ?_, fun r hr => ?_, fun r hr => ?_⟩, ?_, ?_, ?_, ?_, ?_, ?_, ?_, fun i hi => ?_, fun r hr => ?_, fun r hr => ?_, fun r hr => ?_⟩
  · rw [hy k hk]
    split
    · decide
    · split <;> decide
  · rw [z 0 (by omega) (by omega) (by omega)]; decide
  · rw [z 1 (by omega) (by omega) (by omega)]; decide
  · rw [z 2 (by omega) (by omega) (by omega)]; decide
  · rw [t3]; decide
  · rw [z 4 (by omega) (by omega) (by omega)]; decide
  · rw [z 5 (by omega) (by omega) (by omega)]; decide
  · rw [t6]; decide
  · rw [z 0 (by omega) (by omega) (by omega), n0] at hi; omega
  · rw [z 1 (by omega) (by omega) (by omega), n0] at hr; omega
  · rw [z 2 (by omega) (by omega) (by omega), n0] at hr; omega
  · rw [z (139 + r) (by omega) (by omega) (by omega)]
    exact ⟨by decide, fun _ => rfl⟩
  · rw [z 0 (by omega) (by omega) (by omega), hx 0 (by omega)]; rfl
  · rw [z 1 (by omega) (by omega) (by omega), hx 1 (by omega)]; rfl
  · rw [z 2 (by omega) (by omega) (by omega), hx 2 (by omega)]; rfl
  · rw [t3, hx 14 (by omega)]; rfl
  · rw [z 4 (by omega) (by omega) (by omega), hx 16 (by omega)]; rfl
  · rw [z 5 (by omega) (by omega) (by omega), hx 17 (by omega)]; rfl
  · rw [t6, hx 15 (by omega)]; rfl
  · rw [z 0 (by omega) (by omega) (by omega), n0] at hi; omega
  · rw [z 1 (by omega) (by omega) (by omega), n0] at hr; omega
  · rw [z (139 + r) (by omega) (by omega) (by omega), hc r hr]
  · rw [z 2 (by omega) (by omega) (by omega), n0] at hr; omega
/-- the reading as a whole -/
theorem sim {N : Nat} (hN : 1000 < N) {T : Nat → Nat} {len S : Nat} (hS : S = 71 ∨ S = 83) {X0 : Mem} (hX : TX T len X0) (hC : CT T len (sk T len 0) X0) (h2 : gI X0 1 2 = 0) (h3 : gI X0 1 3 = -1) (hx : ∀ x, (x ≤ 2 ∨ 14 ≤ x ∧ x ≤ 17) → gI X0 S x = if x = 14 then 2 else if x = 15 then 20 else 0) (hc : ∀ j, j < 12 → gI X0 (S + 6) j = 0) {M : Mem} (hY : TY T len M) :
    ∃ Xf Yf, L_X8_read_25 N N S 0 X0 = some Xf ∧ f_X10_load N M = B_X10_load_85 N Yf ∧ FrA S X0 Xf ∧ FrL M Yf ∧ gI Yf 95 0 = 0 ∧ ((∃ s, GoodR T len s Xf Yf ∧ SD S Xf Yf) ∨ BadR Xf Yf) := by
  obtain ⟨Y0, y1, y2, y3, y4, y5, y6, y7, y8, y9⟩ := m_start hN hY
  have hl := hX.1
  have hG : GoodR T len (sk T len 0) X0 Y0 := ⟨hC, h2, y4, by rw [h3, y5], y7, 0, by omega, by rw [y6]; rfl, rfl⟩
  obtain ⟨Xf, Yf, a1, a2, a3, a4, a5⟩ := r_loop hN hS 800 N N 0 X0 Y0 hX y2 (Or.inl ⟨_, by omega, by omega, hG, sd0 hx hc y9⟩) (by omega) (by omega) (by omega)
  refine ⟨Xf, Yf, a1, by rw [y1, l1_of a2], a3, ⟨fun k k1 k2 => by rw [a4.1 k k1 k2, y3.1 k k1 k2], fun j j1 j2 => by rw [a4.2.1 j j2, y3.2.1 j j1 j2], y3.2.2.trans ⟨a4.2.2.1, a4.2.2.2.1, a4.2.2.2.2⟩⟩, by rw [a4.2.1 0 (by omega), y8], a5⟩
