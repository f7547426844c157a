/-! THE CLASS'S MATCHING: the whole; MOSTREVIEWS, BESTMATCHSUM -/
theorem szF_P (F : Nat → Nat → Bool) : szF F = sm (fun p => dP F p) 16 := by
  have h : (szF F : Int) = (sm (fun p => dP F p) 16 : Nat) := by
    rw [szF_Z, sm_Z]
    have e1 : smZ (fun r => (dR F r : Int)) 12 = smZ (fun r => smZ (chi F r) 16) 12 := smZ_congr 12 (fun r _ => dR_Z F r)
    have e2 : smZ (fun p => (dP F p : Int)) 16 = smZ (fun p => smZ (fun r => chi F r p) 12) 16 := smZ_congr 16 (fun p _ => dP_Z F p)
    rw [e1, e2, smZ_swap]
  omega
theorem sz64 {m : Mem} {pa : Int32} {F : Nat → Nat → Bool} (hb : RelB m) (hF : Feas (Em m pa) (capM m) (eaM m pa) F) : szF F ≤ 64 := by
  rw [szF_P]
  have : sm (fun p => dP F p) 16 ≤ 4 * 16 := sm_le 16 (fun p hp => by
    have := hF.2.2 p hp
    have := eaM_le hb pa p
    omega)
  omega
theorem c_solve {N : Nat} (hN : 100 < N) {m : Mem} {pa : Int32} (hb : RelB m) : ∀ d n F h hT M, szF F + d = 64 → d < n → CW m pa M → CU m F M → CR m pa F M → Feas (Em m pa) (capM m) (eaM m pa) F → Cert (Em m pa) (capM m) (eaM m pa) (mat m) F h hT → gI M 51 10 = nI (szF F) → gI M 51 11 = nI (wtF (mat m) F) →
    ∃ M' F', (L_X4_solve_10 N n (nI (szF F)) M).bind (fun x9 => match x9 with | .inl (m_10) => some (m_10) | .inr (m_10) => some (m_10)) = some M' ∧ FrC2 M M' ∧ Best m pa F' ∧ gI M' 51 10 = nI (szF F') ∧ gI M' 51 11 = nI (wtF (mat m) F') := by
  have hR12 := hb.R.2
  have hQ16 := hb.Q.2
  intro d
  induction d with
  | zero =>
    intro n F h hT M hd hn hw hu hr hF C e10 e11
    obtain ⟨n, rfl⟩ : ∃ k, n = k + 1 := ⟨n - 1, by omega⟩
    refine ⟨M, F, ?_, FrC2.refl M, ⟨hF, ⟨h, hT, C⟩, fun G hG => by have := sz64 hb hG; omega⟩, e10, e11⟩
    show (T_X4_solve_10 N (L_X4_solve_10 N n) _ _).bind _ = _
    unfold T_X4_solve_10
    rw [if_pos (show (64 : Int32) ≤ nI (szF F) from nI_le (a := 64) (by omega) (by omega))]
    rfl
  | succ d ih =>
    intro n F h hT M hd hn hw hu hr hF C e10 e11
    obtain ⟨n, rfl⟩ : ∃ k, n = k + 1 := ⟨n - 1, by omega⟩
    have S := C.srch hF
    have P := C.po (mat_le m)
    obtain ⟨g, f, M1, a1, a2, a3, a4, a5⟩ := c_findPaths (N := N) (by omega) hb S hw hu hr
    have hw1 := hw.keep (a2.1 51 (by omega)) (a2.1 52 (by omega))
    have hu1 := hu.keep (a2.1 53 (by omega))
    have hr1 : CR m pa F M1 := by
      unfold CR
      rw [a2.1 54 (by omega), a2.1 55 (by omega)]
      exact hr
    have hbe := c_bestEnd (N := N) hb S hw1 hr1 a3 a4 (nR m) N 0 none (by omega) (by omega) (fun k hk => by cases hk)
    generalize hs : pick (fun r => decide (g (16 + r) ≠ FAR) && decide (dR F r < capM m r)) (fun r b => decide (g (16 + b) < g (16 + r))) (nR m) 0 none = s at hbe
    obtain ⟨q1, q2⟩ := pick_max (gn := fun r => g (16 + r)) (nR m) 0 none s (fun k hk => by cases hk) hs
    have hcap : ∀ r, dR F r < capM m r → r < nR m := fun r hl => by
      unfold capM at hl
      by_cases e : r < nR m
      · exact e
      · rw [if_neg e] at hl
        omega
    have hbe' : f_X4_bestEnd N M1 = some (oI s, M1) := by
      unfold f_X4_bestEnd
      rw [l2_of (show L_X4_bestEnd_4 N N (-1) 0 M1 = _ from hbe)]
    show ∃ M' F', (T_X4_solve_10 N (L_X4_solve_10 N n) _ _).bind _ = _ ∧ _
    unfold T_X4_solve_10
    rw [if_neg (show ¬ (64 : Int32) ≤ nI (szF F) from nI_ge (b := 64) (by omega) (by omega)), b1_of a1, b2_of hbe']
    cases s with
    | none =>
      rw [if_pos (show oI none = -1 from rfl)]
      refine ⟨M1, F, rfl, a2.c, ⟨hF, ⟨h, hT, C⟩, fun G hGf => no_more (mat_le m) hF hGf a4 a5 (fun r hr' hl => ?_)⟩, by rw [a2.1 51 (by omega)]; exact e10, by rw [a2.1 51 (by omega)]; exact e11⟩
      have := (q1 rfl).2 r (by omega) (by have := hcap r hl; omega)
      rw [decide_eq_true hl, Bool.and_true] at this
      exact Classical.byContradiction (of_decide_eq_false this)
    | some b =>
      rcases pick_ok _ _ _ _ hs with x | ⟨x1, x2, x3⟩
      · cases x
      simp only [Bool.and_eq_true, decide_eq_true_eq] at x3
      have hb12 : b < 12 := by omega
      have hmax : ∀ r, r < 12 → dR F r < capM m r → g (16 + r) ≠ FAR → g (16 + r) ≤ g (16 + b) := fun r hr' hl hg => (q2 b rfl).2 r (by omega) (by have := hcap r hl; omega) (by rw [decide_eq_true hg, decide_eq_true hl]; rfl)
      obtain ⟨k, hck⟩ := a4.2.2.2.2.1 (16 + b) (by omega) x3.1
      obtain ⟨o1, ⟨h', hT', o2⟩, o3, o4, o5, o6, o7, o8⟩ := one_more (mat_le m) hF C a4 a5 hb12 x3.2 x3.1 hmax hck
      have hgb := (a4.rng P (show 16 + b < 28 by omega)).resolve_left x3.1
      have hwb := wtF_le (mat_le m) F
      have hpar := (St.par k (16 + b) o5).1 (by omega)
      obtain ⟨j, rfl⟩ : ∃ j, k = 2 * j + 1 := ⟨k / 2, by omega⟩
      have hlen : j + 1 ≤ 12 := by
        have w1 := (way_st a4 (fun v hv => (srcF_iff.mp hv).1) (2 * j + 1) (16 + b) (by omega) x3.1 hck).2.2.2
        have w2 := wy_rev (2 * j + 1) (16 + b) o5
        have w3 := pigeonO 16 12 _ ((wy_nd _ _ hck).1.filter (fun x => decide (16 ≤ x))) (fun x hx => by
          obtain ⟨y1, y2⟩ := List.mem_filter.mp hx
          have := (w1 x y1).1
          have := of_decide_eq_true y2
          omega)
        rw [w2, if_pos (by omega)] at w3
        omega
      rw [if_neg (fun e => by cases (oI_none (s := some b) (fun k hk => by cases hk; omega)).mp e), show oI (some b) = nI b from rfl, wr_eq, gd_t (inb_nI hb12 (by omega)), nI_clamp (by omega), wr_eq]
      generalize hX : sI (sI M1 51 10 (gI M1 51 10 + 1)) 51 11 (gI (sI M1 51 10 (gI M1 51 10 + 1)) 51 11 + gI (sI M1 51 10 (gI M1 51 10 + 1)) 56 b) = X
      have uX : FrC2 M1 X := by
        rw [← hX]
        exact (FrC2.s _ (by omega)).trans (FrC2.s _ (by omega))
      have x10 : gI X 51 10 = nI (szF (ag f (2 * j + 1) (16 + b) F)) := by
        rw [← hX, gI_sI, if_neg (by omega), gI_sI, if_pos ⟨rfl, rfl⟩, a2.1 51 (by omega), e10, nI_1, o3]
      have x11 : gI X 51 11 = nI (wtF (mat m) (ag f (2 * j + 1) (16 + b) F)) := by
        rw [← hX, gI_sI, if_pos ⟨rfl, rfl⟩, gI_sI, if_neg (by omega), a2.1 51 (by omega), e11, sI_ne _ _ (by omega), (a3.1 b hb12).1, ← zI_nI, zI_add, ← o4, zI_nI]
      have x8 : gI X 51 8 = gI M1 51 8 ∧ gI X 51 9 = gI M1 51 9 := by
        rw [← hX, gI_sI, if_neg (by omega), gI_sI, if_neg (by omega), gI_sI, if_neg (by omega), gI_sI, if_neg (by omega)]
        exact ⟨rfl, rfl⟩
      have xo : ∀ k, k ≠ 51 → gI X k = gI M1 k := fun k hk => by rw [← hX, sI_ne _ _ hk, sI_ne _ _ hk]
      clear hX
      -- the exchange
      have uX2 : FrC2 X (sI X 54 b (gI X 54 b - 1)) := FrC2.s _ (by omega)
      obtain ⟨M3, c1, c2, c3, c4⟩ := c_follow (N := N) hQ16 j N 0 b F (sI X 54 b (gI X 54 b - 1)) (by omega) (by omega) hb12 hck o5 (hu1.keep (by rw [sI_ne _ _ (by omega), xo 53 (by omega)])) (fun x hx => by rw [sI_ne _ _ (by omega), xo 57 (by omega)]; exact (a3.1 x hx).2) (fun y hy => by rw [sI_ne _ _ (by omega), xo 59 (by omega)]; exact a3.2.2 y hy)
      have hfol : f_X4_follow N (nI b) X = some M3 := by
        unfold f_X4_follow
        rw [gd_t (inb_nI hb12 (by omega)), nI_clamp (by omega), wr_eq]
        exact c1
      rw [b1_of hfol, nI_1]
      have uC : FrC2 (sI X 54 b (gI X 54 b - 1)) M3 := ⟨fun k hk => c2.1 k (by omega) (by omega), c2.2.1, c2.2.2.1, c2.2.2.2⟩
      have u3 : FrC2 M M3 := ((a2.c.trans uX).trans uX2).trans uC
      have hw3 : CW m pa M3 := by
        refine ⟨?_, ?_, fun r p hr' hp => ?_⟩
        · rw [c2.1 51 (by omega) (by omega), sI_ne _ _ (by omega), x8.1]
          exact hw1.1
        · rw [c2.1 51 (by omega) (by omega), sI_ne _ _ (by omega), x8.2]
          exact hw1.2.1
        · rw [c2.1 52 (by omega) (by omega), sI_ne _ _ (by omega), xo 52 (by omega)]
          exact hw1.2.2 r p hr' hp
      have hr3 : CR m pa (ag f (2 * j + 1) (16 + b) F) M3 := by
        refine ⟨fun r hr' => ?_, fun p hp => ?_⟩
        · rw [c2.1 54 (by omega) (by omega), gI_sI, o7 r, xo 54 (by omega)]
          by_cases e : r = b
          · rw [if_pos ⟨rfl, e⟩, if_pos e, e, hr1.1 b (by omega), show (1 : Int32) = nI 1 from rfl, nI_sub (by omega), show capM m b - dR F b - 1 = capM m b - (dR F b + 1) by omega]
          · rw [if_neg (by omega), if_neg e, hr1.1 r hr']
            rfl
        · rw [c4 p (by omega), sI_ne _ _ (by omega), xo 55 (by omega), o8 p, hr1.2 p hp]
          by_cases e : p = rot f (2 * j + 1) (16 + b)
          · have hle := o1.2.2 p (by omega)
            rw [o8 p, if_pos e] at hle
            rw [if_pos e, if_pos e, show (1 : Int32) = nI 1 from rfl, nI_sub (by omega), show eaM m pa p - dP F p - 1 = eaM m pa p - (dP F p + 1) by omega]
          · rw [if_neg e, if_neg e]
            rfl
      have k51 : gI M3 51 = gI X 51 := by rw [c2.1 51 (by omega) (by omega), sI_ne _ _ (by omega)]
      obtain ⟨M4, F4, d1, d2, d3, d4, d5⟩ := ih n (ag f (2 * j + 1) (16 + b) F) h' hT' M3 (by omega) (by omega) hw3 c3 hr3 o1 o2 (by rw [k51]; exact x10) (by rw [k51]; exact x11)
      rw [o3] at d1
      exact ⟨M4, F4, d1, u3.trans d2, d3, d4, d5⟩
theorem c_prep1 {N : Nat} {m : Mem} (pa : Int32) : ∀ d n r M, Rel M → SV m M → r + d = nR m → d < n → gI M 51 8 = nI (nR m) →
    ∃ M', L_X4_prepare_29 N n (gR M 0 7) pa (nI r) M = some (gR M 0 7, pa, M') ∧ FrX 54 54 M M' ∧ (∀ j, j < nR m → r ≤ j → gI M' 54 j = gI m 96 (13 + 4 * j)) ∧ (∀ j, j < r → gI M' 54 j = gI M 54 j) := by
  intro d
  induction d with
  | zero =>
    intro n r M hR hv hd hn h8
    have hR12 := hR.b.R.2
    rw [hv.r] at hR12
    obtain ⟨n, rfl⟩ : ∃ k, n = k + 1 := ⟨n - 1, by omega⟩
    refine ⟨M, ?_, FrX.refl _ _ M, fun j h1 h2 => by omega, fun j _ => rfl⟩
    show T_X4_prepare_29 N (L_X4_prepare_29 N n) _ _ _ _ = _
    unfold T_X4_prepare_29
    rw [h8, if_pos (nI_le (by omega) (by omega))]
  | succ d ih =>
    intro n r M hR hv hd hn h8
    have hR12 := hR.b.R.2
    rw [hv.r] at hR12
    obtain ⟨n, rfl⟩ : ∃ k, n = k + 1 := ⟨n - 1, by omega⟩
    have u : FrC2 M (sI M 54 r (gI m 96 (13 + 4 * r))) := FrC2.s _ (by omega)
    have u' : FrX 54 54 M (sI M 54 r (gI m 96 (13 + 4 * r))) := ⟨fun k k1 _ => sI_ne _ _ k1, fun _ _ => rfl, fun _ _ => rfl, fun _ _ => rfl⟩
    obtain ⟨M', a1, a2, a3, a4⟩ := ih n (r + 1) (sI M 54 r (gI m 96 (13 + 4 * r))) (hR.core u.core) ⟨u.v.1.trans hv.1, u.v.2.trans hv.2⟩ (by omega) (by omega) (by rw [sI_ne _ _ (by omega)]; exact h8)
    refine ⟨M', ?_, u'.trans a2, fun j h1 h2 => ?_, fun j h1 => ?_⟩
    · show T_X4_prepare_29 N (L_X4_prepare_29 N n) _ _ _ _ = _
      unfold T_X4_prepare_29
      rw [h8, if_neg (nI_ge (by omega) (by omega)), gd_t (st_k hR.b.s), gd_t (st_ok hR.b.s (by omega) (by omega) (show r < 12 by omega)), gd_t (inb_nI (by omega) (by omega)), st_rt hR.b.s (by omega) (by omega), nI_clamp (by omega), show gI M (gR M 0 7 + (6 - 2)) r = gI M 96 (13 + 4 * r) from (hR.b.rowR (by rw [hv.r]; omega)).2.2.1, hv.1, wr_eq, nI_1]
      exact a1
    · by_cases e : j = r
      · rw [e, a4 r (by omega), gI_sI, if_pos ⟨rfl, rfl⟩]
      · exact a3 j h1 (by omega)
    · rw [a4 j (by omega), gI_sI, if_neg (by omega)]
theorem c_prep2 {N : Nat} {m : Mem} (pa : Int32) {p : Nat} (hp : p < nQ m) (hde : deOK m) : ∀ d n r M, Rel M → SV m M → gI M 5 = gI m 5 → r + d = nR m → d < n → gI M 51 8 = nI (nR m) →
    ∃ M', L_X4_prepare_111 N n (gR M 0 7) pa (nI p) (bI (decide (gI m 96 (59 + 5 * p) = pa))) (nI r) M = some (gR M 0 7, pa, nI p, M') ∧ FrX 52 53 M M' ∧ (∀ j, j < nR m → r ≤ j → gI M' 52 (16 * j + p) = (if Em m pa j p then nI (mat m j p) else -1) ∧ gI M' 53 (16 * j + p) = 0) ∧ (∀ j q, q < 16 → ¬ (q = p ∧ r ≤ j) → gI M' 52 (16 * j + q) = gI M 52 (16 * j + q) ∧ gI M' 53 (16 * j + q) = gI M 53 (16 * j + q)) := by
  intro d
  induction d with
  | zero =>
    intro n r M hR hv h5 hd hn h8
    have hR12 := hR.b.R.2
    rw [hv.r] at hR12
    obtain ⟨n, rfl⟩ : ∃ k, n = k + 1 := ⟨n - 1, by omega⟩
    refine ⟨M, ?_, FrX.refl _ _ M, fun j h1 h2 => by omega, fun j q _ _ => ⟨rfl, rfl⟩⟩
    show T_X4_prepare_111 N (L_X4_prepare_111 N n) _ _ _ _ _ _ = _
    unfold T_X4_prepare_111
    rw [h8, if_pos (nI_le (by omega) (by omega))]
  | succ d ih =>
    intro n r M hR hv h5 hd hn h8
    have hR12 := hR.b.R.2
    have hQ16 := hR.b.Q.2
    rw [hv.r] at hR12
    rw [hv.q] at hQ16
    obtain ⟨n, rfl⟩ : ∃ k, n = k + 1 := ⟨n - 1, by omega⟩
    have hcell : ∀ X, f_X9_cell N (nI r) (nI p) X = some (nI (16 * r + p), X) := fun X => by
      unfold f_X9_cell
      rw [cell_nI]
    have go : ∀ x : Int32, x = (if Em m pa r p then nI (mat m r p) else -1) → ∃ M', B_X4_prepare_172 N (L_X4_prepare_111 N n) (gR M 0 7) pa (nI p) (bI (decide (gI m 96 (59 + 5 * p) = pa))) (nI r) x (nI (16 * r + p)) M = some (gR M 0 7, pa, nI p, M') ∧ FrX 52 53 M M' ∧ (∀ j, j < nR m → r ≤ j → gI M' 52 (16 * j + p) = (if Em m pa j p then nI (mat m j p) else -1) ∧ gI M' 53 (16 * j + p) = 0) ∧ (∀ j q, q < 16 → ¬ (q = p ∧ r ≤ j) → gI M' 52 (16 * j + q) = gI M 52 (16 * j + q) ∧ gI M' 53 (16 * j + q) = gI M 53 (16 * j + q)) := by
      intro x hx
      have u : FrX 52 53 M (sI (sI M 52 (16 * r + p) x) 53 (16 * r + p) 0) := FrX.two 52 53 M _ _ _ _
      have uc : FrC2 M (sI (sI M 52 (16 * r + p) x) 53 (16 * r + p) 0) := (FrC2.s _ (by omega)).trans (FrC2.s _ (by omega))
      obtain ⟨M', a1, a2, a3, a4⟩ := ih n (r + 1) (sI (sI M 52 (16 * r + p) x) 53 (16 * r + p) 0) (hR.core uc.core) ⟨uc.v.1.trans hv.1, uc.v.2.trans hv.2⟩ (by rw [u.1 5 (by omega) (by omega)]; exact h5) (by omega) (by omega) (by rw [u.1 51 (by omega) (by omega)]; exact h8)
      refine ⟨M', ?_, u.trans a2, fun j h1 h2 => ?_, fun j q hq hne => ?_⟩
      · unfold B_X4_prepare_172
        rw [gd_t (inb_nI (by omega) (by omega)), nI_clamp (by omega), wr_eq, b2_of (hcell _), gd_t (inb_nI (by omega) (by omega)), nI_clamp (by omega), wr_eq, nI_1]
        exact a1
      · by_cases e : j = r
        · obtain ⟨y1, y2⟩ := a4 r p (by omega) (by omega)
          have g1 : gI (sI M 52 (16 * r + p) x) 52 (16 * r + p) = x := by rw [gI_sI, if_pos ⟨rfl, rfl⟩]
          rw [e]
          refine ⟨?_, ?_⟩
          · rw [y1, sI_ne _ _ (by omega), g1]
            exact hx
          · rw [y2, gI_sI, if_pos ⟨rfl, rfl⟩]
        · exact a3 j h1 (by omega)
      · obtain ⟨y1, y2⟩ := a4 j q hq (by omega)
        rw [y1, y2, sI_ne _ _ (by omega), gI_sI, if_neg (by omega), gI_sI, if_neg (by omega), sI_ne _ _ (by omega)]
        exact ⟨rfl, rfl⟩
    have hfit : f_X9_fits N (gR M 0 7) (nI r) (nI p) M = some (if fit m r p = true then 1 else 0, M) := by
      have := c_fit N hR.b (show r < nR M by rw [hv.r]; omega) (show p < nQ M by rw [hv.q]; exact hp) (by rw [h5, hv.2]; exact hde r (by omega))
      rw [hv.fit] at this
      exact this
    have hmat : f_X6_matchOf N (gR M 0 7) (nI r) (nI p) M = some (nI (mat m r p), M) := by
      have := c_mat N hR.b (show r < nR M by rw [hv.r]; omega) (show p < nQ M by rw [hv.q]; exact hp)
      rw [hv.mat] at this
      exact this
    show ∃ M', T_X4_prepare_111 N (L_X4_prepare_111 N n) _ _ _ _ _ _ = _ ∧ _
    unfold T_X4_prepare_111 B_X4_prepare_141 B_X4_prepare_142
    rw [h8, if_neg (nI_ge (by omega) (by omega))]
    by_cases hpp : gI m 96 (59 + 5 * p) = pa
    · rw [decide_eq_true hpp] at go ⊢
      rw [if_neg (show ¬ bI true = 0 by decide), b2_of hfit]
      cases hf : fit m r p
      · rw [if_pos (by rfl), b2_of (hcell _), if_pos rfl]
        exact go (-1) (by rw [if_neg (fun e => by rw [(Em_iff.mp e).2.2.2] at hf; cases hf)])
      · rw [if_neg (by decide), b2_of (hcell _), if_neg (by decide), gd_t (st_k hR.b.s), b2_of hmat]
        exact go _ (by rw [if_pos (Em_iff.mpr ⟨by omega, hp, hpp, hf⟩)])
    · rw [decide_eq_false hpp] at go ⊢
      rw [if_pos (show bI false = 0 from rfl), b2_of (hcell _), if_pos rfl]
      exact go (-1) (by rw [if_neg (fun e => hpp (Em_iff.mp e).2.2.1)])
theorem c_prep3 {N : Nat} (hN : 17 < N) {m : Mem} (pa : Int32) (hde : deOK m) : ∀ d n p M, Rel M → SV m M → gI M 5 = gI m 5 → p + d = nQ m → d < n → gI M 51 8 = nI (nR m) → gI M 51 9 = nI (nQ m) → (∀ r q, r < nR m → q < p → gI M 52 (16 * r + q) = (if Em m pa r q then nI (mat m r q) else -1) ∧ gI M 53 (16 * r + q) = 0) → (∀ q, q < p → gI M 55 q = nI (eaM m pa q)) →
    ∃ M', L_X4_prepare_61 N n (gR M 0 7) pa (nI p) M = some M' ∧ FrC2 M M' ∧ gI M' 51 = gI M 51 ∧ gI M' 54 = gI M 54 ∧ (∀ r q, r < nR m → q < nQ m → gI M' 52 (16 * r + q) = (if Em m pa r q then nI (mat m r q) else -1) ∧ gI M' 53 (16 * r + q) = 0) ∧ (∀ q, q < nQ m → gI M' 55 q = nI (eaM m pa q)) := by
  intro d
  induction d with
  | zero =>
    intro n p M hR hv h5 hd hn h8 h9 k1 k2
    have hQ16 := hR.b.Q.2
    rw [hv.q] at hQ16
    obtain ⟨n, rfl⟩ : ∃ k, n = k + 1 := ⟨n - 1, by omega⟩
    obtain rfl : p = nQ m := by omega
    refine ⟨M, ?_, FrC2.refl M, rfl, rfl, k1, k2⟩
    show T_X4_prepare_61 N (L_X4_prepare_61 N n) _ _ _ _ = _
    unfold T_X4_prepare_61
    rw [h9, if_pos (nI_le (by omega) (by omega))]
  | succ d ih =>
    intro n p M hR hv h5 hd hn h8 h9 k1 k2
    have hR12 := hR.b.R.2
    have hQ16 := hR.b.Q.2
    rw [hv.r] at hR12
    rw [hv.q] at hQ16
    have hp : p < nQ m := by omega
    obtain ⟨n, rfl⟩ : ∃ k, n = k + 1 := ⟨n - 1, by omega⟩
    obtain ⟨p1, p2, p3, p4⟩ := hR.b.per
    have go : B_X4_prepare_107 N (L_X4_prepare_61 N n) (gR M 0 7) pa (nI p) (bI (decide (gI m 96 (59 + 5 * p) = pa))) (nI (eaM m pa p)) (nI p) M = B_X4_prepare_107 N (L_X4_prepare_61 N n) (gR M 0 7) pa (nI p) (bI (decide (gI m 96 (59 + 5 * p) = pa))) (nI (eaM m pa p)) (nI p) M := rfl
    have u1 : FrC2 M (sI M 55 p (nI (eaM m pa p))) := FrC2.s _ (by omega)
    obtain ⟨M1, a1, a2, a3, a4⟩ := c_prep2 (N := N) pa hp hde (nR m) N 0 (sI M 55 p (nI (eaM m pa p))) (hR.core u1.core) ⟨u1.v.1.trans hv.1, u1.v.2.trans hv.2⟩ (by rw [u1.1 5 (by omega)]; exact h5) (by omega) (by omega) (by rw [sI_ne _ _ (by omega)]; exact h8)
    have u2 : FrC2 (sI M 55 p (nI (eaM m pa p))) M1 := ⟨fun k hk => a2.1 k (by omega) (by omega), a2.2.1, a2.2.2.1, a2.2.2.2⟩
    have u := u1.trans u2
    have e51 : gI M1 51 = gI M 51 := by rw [a2.1 51 (by omega) (by omega), sI_ne _ _ (by omega)]
    obtain ⟨M', b1, b2, b3, b4, b5, b6⟩ := ih n (p + 1) M1 (hR.core u.core) ⟨u.v.1.trans hv.1, u.v.2.trans hv.2⟩ (by rw [u.1 5 (by omega)]; exact h5) (by omega) (by omega) (by rw [e51]; exact h8) (by rw [e51]; exact h9) (fun r q hr hq => by
      by_cases e : q = p
      · rw [e]
        exact a3 r hr (by omega)
      · obtain ⟨y1, y2⟩ := a4 r q (by omega) (by omega)
        rw [y1, y2, sI_ne _ _ (by omega), sI_ne _ _ (by omega)]
        exact k1 r q hr (by omega)) (fun q hq => by
      rw [a2.1 55 (by omega) (by omega), gI_sI]
      by_cases e : q = p
      · rw [if_pos ⟨rfl, e⟩, e]
      · rw [if_neg (by omega)]
        exact k2 q (by omega))
    refine ⟨M', ?_, u.trans b2, b3.trans e51, by rw [b4, a2.1 54 (by omega) (by omega), sI_ne _ _ (by omega)], b5, b6⟩
    have h107 : B_X4_prepare_107 N (L_X4_prepare_61 N n) (gR M 0 7) pa (nI p) (bI (decide (gI m 96 (59 + 5 * p) = pa))) (nI (eaM m pa p)) (nI p) M = some M' := by
      unfold B_X4_prepare_107
      rw [gd_t (inb_nI (by omega) (by omega)), nI_clamp (by omega), wr_eq, l4_of (show L_X4_prepare_111 N N (gR M 0 7) pa (nI p) _ 0 (sI M 55 p (nI (eaM m pa p))) = _ from a1), nI_1]
      rw [u.2.1] at b1
      exact b1
    show T_X4_prepare_61 N (L_X4_prepare_61 N n) _ _ _ _ = _
    unfold T_X4_prepare_61 B_X4_prepare_86
    rw [h9, if_neg (nI_ge (by omega) (by omega)), gd_t (st_k hR.b.s), gd_t (st_ok hR.b.s (by omega) (by omega) (show p < 16 by omega)), st_rt hR.b.s (by omega) (by omega), nI_clamp (by omega), show gI M (gR M 0 7 + (9 - 2)) p = gI M 96 (59 + 5 * p) from (hR.b.rowP (by rw [hv.q]; exact hp)).1, hv.1]
    by_cases hpp : gI m 96 (59 + 5 * p) = pa
    · have hea : eaM m pa p = vN (gI m 96 3) := if_pos ⟨hp, hpp⟩
      rw [decide_eq_true hpp, hea] at h107
      rw [if_pos hpp, if_neg (by decide), gd_t (st_k hR.b.s), p4, p1, hv.1]
      exact h107
    · have hea : eaM m pa p = 0 := if_neg (fun e => hpp e.2)
      rw [decide_eq_false hpp, hea] at h107
      rw [if_neg hpp, if_pos rfl]
      exact h107
theorem c_solveAll {N : Nat} (hN : 100 < N) {m : Mem} (pa : Int32) (hR : Rel m) : ∃ M F, f_X4_solve N (gR m 0 7) pa m = some M ∧ FrC2 m M ∧ Best m pa F ∧ gI M 51 10 = nI (szF F) ∧ gI M 51 11 = nI (wtF (mat m) F) := by
  have hR12 := hR.b.R.2
  have hQ16 := hR.b.Q.2
  have hde : deOK m := fun r hr => hR.de hr
  generalize hM0 : sI (sI (sI (sI m 51 10 0) 51 11 0) 51 8 (nI (nR m))) 51 9 (nI (nQ m)) = M0
  have u0 : FrC2 m M0 := by
    rw [← hM0]
    exact (((FrC2.s _ (by omega)).trans (FrC2.s _ (by omega))).trans (FrC2.s _ (by omega))).trans (FrC2.s _ (by omega))
  have z8 : gI M0 51 8 = nI (nR m) := by rw [← hM0, gI_sI, if_neg (by omega), gI_sI, if_pos ⟨rfl, rfl⟩]
  have z9 : gI M0 51 9 = nI (nQ m) := by rw [← hM0, gI_sI, if_pos ⟨rfl, rfl⟩]
  have z10 : gI M0 51 10 = nI 0 := by
    rw [← hM0, gI_sI, if_neg (by omega), gI_sI, if_neg (by omega), gI_sI, if_neg (by omega), gI_sI, if_pos ⟨rfl, rfl⟩]
    rfl
  have z11 : gI M0 51 11 = nI 0 := by
    rw [← hM0, gI_sI, if_neg (by omega), gI_sI, if_neg (by omega), gI_sI, if_pos ⟨rfl, rfl⟩]
    rfl
  have hR0 := hR.core u0.core
  obtain ⟨M1, a1, a2, a3, a4⟩ := c_prep1 (N := N) (m := m) pa (nR m) N 0 M0 hR0 u0.v (by omega) (by omega) z8
  have u1 : FrC2 M0 M1 := ⟨fun k hk => a2.1 k (by omega) (by omega), a2.2.1, a2.2.2.1, a2.2.2.2⟩
  have u01 := u0.trans u1
  have e51 : gI M1 51 = gI M0 51 := a2.1 51 (by omega) (by omega)
  obtain ⟨M2, b1, b2, b3, b4, b5, b6⟩ := c_prep3 (N := N) (by omega) pa hde (nQ m) N 0 M1 (hR.core u01.core) u01.v (u01.1 5 (by omega)) (by omega) (by omega) (by rw [e51]; exact z8) (by rw [e51]; exact z9) (fun r q _ hq => by omega) (fun q hq => by omega)
  have u2 := u01.trans b2
  obtain ⟨i1, i2, i3, i4⟩ := Cert.none (Em m pa) (capM m) (eaM m pa) (mat_le m)
  have hd0 : ∀ r, dR (fun _ _ => false) r = 0 := fun r => cnt_zero 16 (fun _ _ => rfl)
  have hp0 : ∀ p, dP (fun _ _ => false) p = 0 := fun p => cnt_zero 12 (fun _ _ => rfl)
  obtain ⟨M3, F, c1, c2, c3, c4, c5⟩ := c_solve hN hR.b 64 N (fun _ _ => false) _ _ M2 (by rw [i3]) (by omega) ⟨by rw [b3, e51]; exact z8, by rw [b3, e51]; exact z9, fun r p hr hp => (b5 r p hr hp).1⟩ (fun r p hr hp => (b5 r p hr hp).2) ⟨fun r hr => by
    rw [b4, a3 r hr (by omega), hd0]
    unfold capM
    rw [if_pos hr]
    exact (hR.b.cap hr).1, fun p hp => by rw [b6 p hp, hp0]; rfl⟩ i1 i2 (by rw [b3, e51, z10, i3]) (by rw [b3, e51, z11, i4])
  refine ⟨M3, F, ?_, u2.trans c2, c3, c4, c5⟩
  unfold f_X4_solve f_X4_prepare
  have s1 : gI (sI (sI m 51 10 0) 51 11 0) (gR m 0 7) 1 = nI (nR m) := by
    rw [sI_ne _ _ (by have := hR.b.s; omega), sI_ne _ _ (by have := hR.b.s; omega)]
    exact hR.b.cR
  have s2 : gI (sI (sI (sI m 51 10 0) 51 11 0) 51 8 (nI (nR m))) (gR m 0 7) 2 = nI (nQ m) := by
    rw [sI_ne _ _ (by have := hR.b.s; omega), sI_ne _ _ (by have := hR.b.s; omega), sI_ne _ _ (by have := hR.b.s; omega)]
    exact hR.b.cQ
  rw [u0.2.1] at a1
  rw [u01.2.1] at b1
  rw [wr_eq, wr_eq, gd_t (st_k hR.b.s), s1, wr_eq, s2, wr_eq, hM0, l3_of (show L_X4_prepare_29 N N (gR m 0 7) pa 0 M0 = _ from a1), l1_of (show L_X4_prepare_61 N N (gR m 0 7) pa 0 M1 = _ from b1)]
  rw [i3] at c1
  exact c1
theorem both_best {m : Mem} {pa : Int32} {F F' : Nat → Nat → Bool} (h : Best m pa F) (h' : Best m pa F') : szF F = szF F' ∧ wtF (mat m) F = wtF (mat m) F' := by
  obtain ⟨a1, ⟨b1, b2, b3⟩, a3⟩ := h
  obtain ⟨c1, ⟨d1, d2, d3⟩, c3⟩ := h'
  exact same_best a1 c1 b3 d3 a3 c3
theorem OpI.fe {fl fm : Mem → Option (Int32 × Mem)} {m M Y : Mem} (h : Rel m) (u : Core m M) {b : Int32} (h1 : fl m = some (0, sJ M 108 0 b.toInt64)) (h2 : fm (sJ M 108 0 b.toInt64) = some (b, Y)) (hy : FE (Y0 M b.toInt64 0) Y) : OpI fl fm m :=
  ⟨0, _, b, _, h1, h2, by rw [hy.2.1 0 (by omega) (by omega)]; unfold Y0; rw [gI_sI, if_pos ⟨rfl, rfl⟩], fun _ => by rw [hy.2.2.2.1]; unfold Y0; rw [gJ_sI, gJ_sJ, if_pos ⟨rfl, rfl⟩], (Y0.rel (h.core u) _ _).core hy.core⟩
theorem op_mostReviews {N : Nat} (hN : 4000 < N) : Op_mostReviews N := by
  intro m hR a
  by_cases ha : inR a (nP m) = true
  · obtain ⟨M, F, c1, c2, c3, c4, c5⟩ := c_solveAll (N := N) (by omega) a hR
    have hM := hR.core c2.core
    have v0 := Y0.v M (nI (szF F)).toInt64 0
    have hY := Y0.rel hM (nI (szF F)).toInt64 0
    obtain ⟨Y, F', d1, d2, d3, d4, d5⟩ := m_finds hN (m := m) a hY ⟨v0.1.trans c2.v.1, v0.2.trans c2.v.2⟩
    obtain ⟨e1, e2⟩ := both_best c3 d3
    refine OpI.fe hR c2.core (b := nI (szF F)) ?_ ?_ d2
    · unfold f_L_mostReviews f_X9_mostReviews
      rw [x1_of (by rw [c_checkPanel N hR.b, if_pos ha]), b1_of c1, c4]
      rfl
    · have hJ : Rel (sJ M 108 0 (nI (szF F)).toInt64) := hM.core Core.sJ'
      unfold f_X10_mostReviews B_X10_mostReviews_14
      rw [b2_of (m_isPanel N hJ.b a), show nP (sJ M 108 0 (nI (szF F)).toInt64) = nP M from rfl, c2.v.p, if_pos ha, if_neg (by decide), rs_ok]
      change b1 (f_X10_finds N a (Y0 M (nI (szF F)).toInt64 0)) _ = _
      rw [b1_of d1, d4, e1]
  · refine OpI.no hR (v := 1) (w := 0) (by decide) ?_ ?_ (Or.inl rfl)
    · unfold f_L_mostReviews f_X9_mostReviews
      rw [x1_th (by rw [c_checkPanel N hR.b, if_neg ha])]
      rfl
    · unfold f_X10_mostReviews B_X10_mostReviews_14
      rw [b2_of (m_isPanel N hR.b a), if_neg ha, if_pos rfl, rs_no _ (by decide)]
theorem op_bestMatchSum {N : Nat} (hN : 4000 < N) : Op_bestMatchSum N := by
  intro m hR a
  by_cases ha : inR a (nP m) = true
  · obtain ⟨M, F, c1, c2, c3, c4, c5⟩ := c_solveAll (N := N) (by omega) a hR
    have hM := hR.core c2.core
    have v0 := Y0.v M (nI (wtF (mat m) F)).toInt64 0
    have hY := Y0.rel hM (nI (wtF (mat m) F)).toInt64 0
    obtain ⟨Y, F', d1, d2, d3, d4, d5⟩ := m_finds hN (m := m) a hY ⟨v0.1.trans c2.v.1, v0.2.trans c2.v.2⟩
    obtain ⟨e1, e2⟩ := both_best c3 d3
    refine OpI.fe hR c2.core (b := nI (wtF (mat m) F)) ?_ ?_ d2
    · unfold f_L_bestMatchSum f_X9_bestMatchSum
      rw [x1_of (by rw [c_checkPanel N hR.b, if_pos ha]), b1_of c1, c5]
      rfl
    · have hJ : Rel (sJ M 108 0 (nI (wtF (mat m) F)).toInt64) := hM.core Core.sJ'
      unfold f_X10_bestMatchSum B_X10_bestMatchSum_14
      rw [b2_of (m_isPanel N hJ.b a), show nP (sJ M 108 0 (nI (wtF (mat m) F)).toInt64) = nP M from rfl, c2.v.p, if_pos ha, if_neg (by decide), rs_ok]
      change b1 (f_X10_finds N a (Y0 M (nI (wtF (mat m) F)).toInt64 0)) _ = _
      rw [b1_of d1, d5, e2]
  · refine OpI.no hR (v := 1) (w := 0) (by decide) ?_ ?_ (Or.inl rfl)
    · unfold f_L_bestMatchSum f_X9_bestMatchSum
      rw [x1_th (by rw [c_checkPanel N hR.b, if_neg ha])]
      rfl
    · unfold f_X10_bestMatchSum B_X10_bestMatchSum_14
      rw [b2_of (m_isPanel N hR.b a), if_neg ha, if_pos rfl, rs_no _ (by decide)]
