/-! ASSIGNALL: class and model step by step -/
theorem RelT.rv {t gr li sc de W} (h : RelT t gr li sc de W) {r p : Nat} (hr : r < 12) (hp : p < 16) : (vN (W (14 + r))).testBit p = decide (¬ sc (16 * r + p) = 0) := by
  have h1 := ((h.2.2.2.2.2.2.2 r hr p hp).1).1
  by_cases hc : sc (16 * r + p) = 0
  · rw [decide_eq_false (by simp [hc])]
    cases hb : (vN (W (14 + r))).testBit p
    · rfl
    · exact absurd hc (h1.mp hb)
  · rw [decide_eq_true hc]
    exact h1.mpr hc
theorem RelT.cntR {t gr li sc de W} (h : RelT t gr li sc de W) {r : Nat} (hr : r < 12) : cnt (fun p => decide (¬ sc (16 * r + p) = 0)) 16 = cnt (vN (W (14 + r))).testBit 16 := cnt_congr 16 (fun p hp => (h.rv hr hp).symm)
theorem RelT.cntP {t gr li sc de W} (h : RelT t gr li sc de W) (hR : vN (t 1) ≤ 12) {p : Nat} (hp : p < 16) : cnt (fun r => decide (¬ sc (16 * r + p) = 0)) 12 = cnt (fun r => (vN (W (14 + r))).testBit p) (vN (t 1)) := by
  obtain ⟨d, hd⟩ : ∃ d, 12 = vN (t 1) + d := ⟨12 - vN (t 1), by omega⟩
  rw [hd, cnt_more d (fun i h1 h2 => by rw [(h.2.2.2.2.2.2.2 i (by omega) p hp).2 (Or.inl h1)]; rfl)]
  exact cnt_congr _ (fun r hr => (h.rv (by omega) hp).symm)
theorem RelT.put1 {t gr li sc de W} (h : RelT t gr li sc de W) {r p : Nat} (hr : r < vN (t 1)) (hp : p < vN (t 2)) (hR : vN (t 1) ≤ 12) (hQ : vN (t 2) ≤ 16) (hz : sc (16 * r + p) = 0) : RelT t gr li (upN sc (16 * r + p) (-1)) de (upN W (14 + r) (nI (vN (W (14 + r)) ||| 2 ^ p))) := by
  have l14 := h.2.2.2.2.2.2.1 r (by omega)
  have hs := ((h.2.2.2.2.2.2.2 r (by omega) p (by omega)).1).2.1
  have h := h.put (r0 := r) (p0 := p) hr hR hp hQ (c := -1) (s := 0) (or_lt l14 (show p < 16 by omega)) (fun q hq => by
    rw [or_tb]
    by_cases hpq : q = p
    · subst hpq
      simp
    · rw [if_neg hpq, decide_eq_false (show ¬ p = q by omega), Bool.or_false]) rfl (by decide)
  rw [hz, if_neg (by decide)] at hs
  rw [show upN (upN W (14 + r) (nI (vN (W (14 + r)) ||| 2 ^ p))) (26 + (16 * r + p)) 0 = upN W (14 + r) (nI (vN (W (14 + r)) ||| 2 ^ p)) from funext (fun j => by
    by_cases hj : j = 26 + (16 * r + p)
    · rw [hj, upN_same, upN_ne _ _ (by omega), hs]
    · rw [upN_ne _ _ hj])] at h
  exact h
def deOK (X : Mem) : Prop := ∀ r, r < 12 → gI X 5 r = gI X 98 (2 + r)
def Sim (gr li : Int32) (X Y : Mem) : Prop := RelB Y ∧ gI Y 96 = gI X 96 ∧ RelT (gI X 96) gr li (gI X 4) (gI X 5) (gI Y 98)
def FrC (X X' : Mem) : Prop := (∀ k, k ≠ 4 → gI X' k = gI X k) ∧ (∀ k j, gR X' k j = gR X k j)
def FrM (Y Y' : Mem) : Prop := (∀ k, k ≠ 98 → gI Y' k = gI Y k) ∧ (∀ k j, gR Y' k j = gR Y k j) ∧ (∀ k j, gJ Y' k j = gJ Y k j)
theorem FrC.refl (X : Mem) : FrC X X := ⟨fun _ _ => rfl, fun _ _ => rfl⟩
theorem FrM.refl (X : Mem) : FrM X X := ⟨fun _ _ => rfl, fun _ _ => rfl, fun _ _ => rfl⟩
theorem FrC.trans {a b c : Mem} (h : FrC a b) (h' : FrC b c) : FrC a c := ⟨fun k hk => (h'.1 k hk).trans (h.1 k hk), fun k j => (h'.2 k j).trans (h.2 k j)⟩
theorem FrM.trans {a b c : Mem} (h : FrM a b) (h' : FrM b c) : FrM a c := ⟨fun k hk => (h'.1 k hk).trans (h.1 k hk), fun k j => (h'.2.1 k j).trans (h.2.1 k j), fun k j => (h'.2.2 k j).trans (h.2.2 k j)⟩
theorem FrC.b {X X' : Mem} (f : FrC X X') (h : RelB X) : RelB X' := h.keep (f.1 96 (by omega)) (f.1 98 (by omega)) (fun k k1 k2 => f.1 k (by omega)) (f.2 0 7) (f.2 0 8)
theorem FrC.de {X X' : Mem} (f : FrC X X') (h : deOK X) : deOK X' := fun r hr => by rw [f.1 5 (by omega), f.1 98 (by omega)]; exact h r hr
theorem FrC.q {X X' : Mem} (f : FrC X X') : nQ X' = nQ X := by unfold nQ; rw [f.1 96 (by omega)]
theorem pick_congr {ok ok' : Nat → Bool} {be be' : Nat → Nat → Bool} {K : Nat} (h1 : ∀ r, r < K → ok r = ok' r) (h2 : ∀ r b, r < K → b < K → be r b = be' r b) : ∀ d i s, i + d = K → (∀ k, s = some k → k < i) → pick ok be d i s = pick ok' be' d i s := by
  intro d
  induction d with
  | zero => intro i s _ _; rfl
  | succ d ih =>
    intro i s hi hs
    rw [pick_s, pick_s, h1 i (by omega)]
    cases hk : ok' i
    · exact ih (i + 1) s (by omega) (fun k hk => by have := hs k hk; omega)
    · cases s with
      | none => exact ih (i + 1) (some i) (by omega) (fun k hk => by cases hk; omega)
      | some b =>
        have hb := hs b rfl
        simp only [if_true, h2 i b (by omega) (by omega)]
        cases be' i b
        · exact ih (i + 1) (some b) (by omega) (fun k hk => by cases hk; omega)
        · exact ih (i + 1) (some i) (by omega) (fun k hk => by cases hk; omega)
theorem pick_ok {ok : Nat → Bool} {be : Nat → Nat → Bool} : ∀ d i s r, pick ok be d i s = some r → s = some r ∨ (i ≤ r ∧ r < i + d ∧ ok r = true) := by
  intro d
  induction d with
  | zero => intro i s r h; exact Or.inl h
  | succ d ih =>
    intro i s r h
    rw [pick_s] at h
    cases hk : ok i
    · rw [hk] at h
      rcases ih _ _ _ h with h | ⟨h1, h2, h3⟩
      · exact Or.inl h
      · exact Or.inr ⟨by omega, by omega, h3⟩
    · rw [hk] at h
      have hmid : ∀ s', (s' = some i ∨ s' = s) → pick ok be d (i + 1) s' = some r → s = some r ∨ (i ≤ r ∧ r < i + (d + 1) ∧ ok r = true) := by
        intro s' hs' hh
        rcases ih _ _ _ hh with hh | ⟨h1, h2, h3⟩
        · rcases hs' with rfl | rfl
          · cases hh
            exact Or.inr ⟨by omega, by omega, hk⟩
          · exact Or.inl hh
        · exact Or.inr ⟨by omega, by omega, h3⟩
      cases s with
      | none => exact hmid _ (Or.inl rfl) h
      | some b =>
        simp only [if_true] at h
        cases hb : be i b
        · simp only [hb] at h
          exact hmid _ (Or.inr rfl) h
        · simp only [hb] at h
          exact hmid _ (Or.inl rfl) h
theorem step_all {N : Nat} (hN : 16 < N) {gr li : Int32} {X : Mem} (hb : RelB X) (hde : deOK X) {p : Nat} (hp : p < nQ X) : ∃ (v : Int32) (X' : Mem) (o : Option Nat), f_X9_addReview N (nI p) X = some (v, X') ∧ FrC X X' ∧ (v = 0 ↔ o = none) ∧ (∀ r, o = some r → r < nR X ∧ X' = sI X 4 (16 * r + p) (-1)) ∧ (o = none → X' = X) ∧
    ∀ Y, Sim gr li X Y → f_X10_chooses N (nI p) Y = some (oI o, Y) ∧ ∀ r, o = some r → Sim gr li X' (sI Y 98 (14 + r) (nI (vN (gI Y 98 (14 + r)) ||| 2 ^ p))) ∧ gI Y 98 (14 + r) = nI (vN (gI Y 98 (14 + r))) := by
  have hR := hb.R.2
  have hQ := hb.Q.2
  have h1 := c_add_go hN hb hde hp (nR X) N 0 none (by omega) (by omega) (fun k hk => by cases hk)
  generalize ho : pick (fun r => fit X r p && takeC X r p) (bet (fun k => mat X k p) (rcC X)) (nR X) 0 none = o at h1
  have hY : ∀ Y, Sim gr li X Y → f_X10_chooses N (nI p) Y = some (oI o, Y) := by
    intro Y ⟨y1, y2, y3⟩
    have hnR : nR Y = nR X := by unfold nR; rw [y2]
    have h2 := m_choose_go hN y1 (show p < nQ Y by unfold nQ; rw [y2]; exact hp) (nR Y) N 0 none (by omega) (by omega) (fun k hk => by cases hk)
    have hf : ∀ r, r < nR X → fit Y r p = fit X r p := fun r hr => by
      unfold fit conf
      rw [y2, ← (y3.2.2.2.2.2.1 r (by omega)).1, ← hde r (by omega)]
    have hm : ∀ r, mat Y r p = mat X r p := fun r => by
      unfold mat
      rw [y2]
    have hrc : ∀ r, r < nR X → rcM Y r = rcC X r := fun r hr => (y3.cntR (by omega)).symm
    rw [pick_congr (K := nR Y) (ok' := fun r => fit X r p && takeC X r p) (be' := bet (fun k => mat X k p) (rcC X)) (fun r hr => by
      rw [hnR] at hr
      unfold takeM takeC
      rw [hf r hr, y3.rv (by omega) (by omega), y2, hrc r hr]
      by_cases hz : gI X 4 (16 * r + p) = 0
      · rw [decide_eq_false (show ¬ ¬ gI X 4 (16 * r + p) = 0 by simp [hz]), decide_eq_true hz]
        rfl
      · rw [decide_eq_true (show ¬ gI X 4 (16 * r + p) = 0 from hz), decide_eq_false hz]
        rfl) (fun r b hr hb => by
      rw [hnR] at hr hb
      unfold bet
      simp only [hm, hrc r hr, hrc b hb]) _ _ _ (by omega) (fun k hk => by cases hk), hnR, ho] at h2
    unfold f_X10_chooses
    exact (l2_of h2).trans rfl
  cases o with
  | none =>
    refine ⟨0, X, none, ?_, FrC.refl X, ⟨fun _ => rfl, fun _ => rfl⟩, (fun r hr => by cases hr), (fun _ => rfl), fun Y s => ⟨hY Y s, fun r hr => by cases hr⟩⟩
    unfold f_X9_addReview
    exact (l3_of h1).trans (if_pos rfl)
  | some r =>
    rcases pick_ok _ _ _ _ ho with h | ⟨_, g2, g3⟩
    · cases h
    have hr : r < nR X := by omega
    have hfr : FrC X (sI X 4 (16 * r + p) (-1)) := ⟨fun k hk => sI_ne _ _ hk, fun _ _ => rfl⟩
    refine ⟨1, sI X 4 (16 * r + p) (-1), some r, ?_, hfr, ⟨fun h => absurd h (by decide), fun h => (by cases h)⟩, (fun r' hr' => by cases hr'; exact ⟨hr, rfl⟩), (fun h => by cases h), fun Y s => ⟨hY Y s, fun r' hr' => ?_⟩⟩
    · unfold f_X9_addReview
      refine (l3_of h1).trans ?_
      rw [if_neg (fun e => by cases (oI_none (s := some r) (fun k hk => by cases hk; omega)).mp e), show oI (some r) = nI r from rfl, b1_of (c_put N (by omega) (by omega) (-1) X)]
    · cases hr'
      obtain ⟨y1, y2, y3⟩ := s
      have hz : gI X 4 (16 * r + p) = 0 := by
        unfold takeC at g3
        simp only [Bool.and_eq_true, decide_eq_true_eq] at g3
        exact g3.2.1
      have hT := y3.put1 (r := r) (p := p) hr hp hR hQ hz
      have e98 : gI (sI Y 98 (14 + r) (nI (vN (gI Y 98 (14 + r)) ||| 2 ^ p))) 98 = upN (gI Y 98) (14 + r) (nI (vN (gI Y 98 (14 + r)) ||| 2 ^ p)) := upN_sI _ _ _ _
      refine ⟨⟨?_, ?_, ?_⟩, vN_eq (y1.2.2.2.1 _ (by omega))⟩
      · obtain ⟨b1, b2, b3, b4, b5⟩ := y1
        refine ⟨b1, ?_, ?_, ?_, ?_⟩
        · rw [sI_ne _ _ (by omega)]
          exact b2
        · have hs := b1.s
          exact b3.keep (sI_ne _ _ (by omega)) (fun k k1 k2 => sI_ne _ _ (by show k ≠ 98; have : gR (sI Y 98 (14 + r) (nI (vN (gI Y 98 (14 + r)) ||| 2 ^ p))) 0 7 = gR Y 0 7 := rfl; omega))
        · rw [e98]
          exact hT.1
        · rw [e98]
          exact fun r hr => ⟨(hT.2.2.2.2.2.1 r hr).2.1, hT.2.2.2.2.2.2.1 r hr⟩
      · rw [sI_ne _ _ (by omega), sI_ne _ _ (by omega)]
        exact y2
      · rw [e98, upN_sI, sI_ne _ _ (by omega), sI_ne _ _ (by omega)]
        exact hT
theorem all_in {N : Nat} (hN : 16 < N) {gr li : Int32} (a : Int32) {k : Nat} (hk : k ≤ 4) : ∀ d n i (c : Int32) (X : Mem), RelB X → deOK X → i + d = nQ X → d < n → ∃ (c' : Int32) (X' : Mem), L_X9_assignAll_34 N n a c (nI k) (nI i) X = some (a, c', nI k, X') ∧ FrC X X' ∧
    ∀ Y, Sim gr li X Y → ∃ Y', L_X10_assignAll_47 N n a c (nI k) (nI i) Y = some (a, c', nI k, Y') ∧ Sim gr li X' Y' ∧ FrM Y Y' := by
  intro d
  induction d with
  | zero =>
    intro n i c X hb hde hi hn
    have hQ := hb.Q.2
    obtain ⟨n, rfl⟩ : ∃ k, n = k + 1 := ⟨n - 1, by omega⟩
    refine ⟨c, X, ?_, FrC.refl X, fun Y s => ⟨Y, ?_, s, FrM.refl Y⟩⟩
    · show T_X9_assignAll_34 N (L_X9_assignAll_34 N n) _ _ _ _ _ = _
      unfold T_X9_assignAll_34
      rw [gd_t (st_k hb.s), hb.cQ, if_pos (nI_le (by omega) (by omega))]
    · show T_X10_assignAll_47 N (L_X10_assignAll_47 N n) _ _ _ _ _ = _
      unfold T_X10_assignAll_47
      rw [s.2.1, hb.Q.1, if_pos (nI_le (by omega) (by omega))]
  | succ d ih =>
    intro n i c X hb hde hi hn
    have hR := hb.R.2
    have hQ := hb.Q.2
    have hiq : i < nQ X := by omega
    obtain ⟨n, rfl⟩ : ∃ k, n = k + 1 := ⟨n - 1, by omega⟩
    have hc : ∀ Y, Sim gr li X Y → f_X10_proposal N (nI i) 0 Y = some (gI X 96 (59 + 5 * i), Y) := fun Y s => by
      rw [show (0 : Int32) = nI 0 from rfl, m_proposal N (by omega) (by omega), s.2.1]
    by_cases ha : gI X 96 (59 + 5 * i) = a
    · have hcnt : ∀ Y, Sim gr li X Y → f_X10_reviewsOf N (nI i) Y = some (nI (cnt (fun r => decide (¬ gI X 4 (16 * r + i) = 0)) 12), Y) := fun Y s => by
        rw [m_reviewsOf (N := N) (by omega) (show i < 32 by omega) hR Y (by rw [s.2.1]; exact hb.R.1) (fun r hr => s.1.2.2.2.1 _ (by omega)), s.2.2.cntP hR (by omega)]
        rfl
      have hc12 := cnt_le (fun r => decide (¬ gI X 4 (16 * r + i) = 0)) 12
      by_cases hl : k ≤ cnt (fun r => decide (¬ gI X 4 (16 * r + i) = 0)) 12
      · obtain ⟨c', X', e1, e2, e3⟩ := ih n (i + 1) c X hb hde (by omega) (by omega)
        refine ⟨c', X', ?_, e2, fun Y s => ?_⟩
        · show T_X9_assignAll_34 N (L_X9_assignAll_34 N n) _ _ _ _ _ = _
          unfold T_X9_assignAll_34
          rw [gd_t (st_k hb.s), hb.cQ, if_neg (nI_ge (by omega) (by omega)), gd_t (st_ok hb.s (by omega) (by omega) (show i < 16 by omega)), st_rt hb.s (by omega) (by omega), nI_clamp (by omega), show gI X (gR X 0 7 + (9 - 2)) i = gI X 96 (59 + 5 * i) from (hb.rowP hiq).1, if_pos ha, b2_of (c_revP (by omega) (by omega) X), if_pos (nI_le hl (by omega)), nI_1]
          exact e1
        · obtain ⟨Y', g1, g2⟩ := e3 Y s
          refine ⟨Y', ?_, g2⟩
          show T_X10_assignAll_47 N (L_X10_assignAll_47 N n) _ _ _ _ _ = _
          unfold T_X10_assignAll_47 B_X10_assignAll_88 B_X10_assignAll_89
          rw [s.2.1, hb.Q.1, if_neg (nI_ge (by omega) (by omega)), b2_of (hc Y s), if_pos ha, b2_of (hcnt Y s), if_pos (nI_le hl (by omega)), if_pos rfl, nI_1]
          exact g1
      · obtain ⟨v, X1, o, a1, a2, a3, a4, a5, a6⟩ := step_all hN (gr := gr) (li := li) hb hde hiq
        cases o with
        | none =>
          obtain ⟨c', X', e1, e2, e3⟩ := ih n (i + 1) c X hb hde (by omega) (by omega)
          have hX1 := a5 rfl
          subst hX1
          refine ⟨c', X', ?_, e2, fun Y s => ?_⟩
          · show T_X9_assignAll_34 N (L_X9_assignAll_34 N n) _ _ _ _ _ = _
            unfold T_X9_assignAll_34
            rw [gd_t (st_k hb.s), hb.cQ, if_neg (nI_ge (by omega) (by omega)), gd_t (st_ok hb.s (by omega) (by omega) (show i < 16 by omega)), st_rt hb.s (by omega) (by omega), nI_clamp (by omega), show gI X1 (gR X1 0 7 + (9 - 2)) i = gI X1 96 (59 + 5 * i) from (hb.rowP hiq).1, if_pos ha, b2_of (c_revP (by omega) (by omega) X1), if_neg (nI_ge (by omega) (by omega)), b2_of a1, if_pos (a3.mpr rfl), nI_1]
            exact e1
          · obtain ⟨Y', g1, g2⟩ := e3 Y s
            refine ⟨Y', ?_, g2⟩
            show T_X10_assignAll_47 N (L_X10_assignAll_47 N n) _ _ _ _ _ = _
            unfold T_X10_assignAll_47 B_X10_assignAll_89
            rw [s.2.1, hb.Q.1, if_neg (nI_ge (by omega) (by omega)), b2_of (hc Y s), if_pos ha, b2_of (hcnt Y s), if_neg (nI_ge (by omega) (by omega)), b2_of (a6 Y s).1, if_pos (show oI none = -1 from rfl), nI_1]
            exact g1
        | some r =>
          obtain ⟨c', X', e1, e2, e3⟩ := ih n (i + 1) (c + 1) X1 (a2.b hb) (a2.de hde) (by rw [a2.q]; omega) (by omega)
          obtain ⟨hr, hX1⟩ := a4 r rfl
          refine ⟨c', X', ?_, a2.trans e2, fun Y s => ?_⟩
          · show T_X9_assignAll_34 N (L_X9_assignAll_34 N n) _ _ _ _ _ = _
            unfold T_X9_assignAll_34
            rw [gd_t (st_k hb.s), hb.cQ, if_neg (nI_ge (by omega) (by omega)), gd_t (st_ok hb.s (by omega) (by omega) (show i < 16 by omega)), st_rt hb.s (by omega) (by omega), nI_clamp (by omega), show gI X (gR X 0 7 + (9 - 2)) i = gI X 96 (59 + 5 * i) from (hb.rowP hiq).1, if_pos ha, b2_of (c_revP (by omega) (by omega) X), if_neg (nI_ge (by omega) (by omega)), b2_of a1, if_neg (fun h => by cases a3.mp h), nI_1]
            exact e1
          · obtain ⟨s1, s2⟩ := (a6 Y s).2 r rfl
            obtain ⟨Y', g1, g2, g3⟩ := e3 _ s1
            refine ⟨Y', ?_, g2, FrM.trans ⟨fun k hk => sI_ne _ _ hk, fun _ _ => rfl, fun _ _ => rfl⟩ g3⟩
            have hor : gI Y 98 (14 + r) ||| ((1 : Int32) <<< (nI i &&& 31)) = nI (vN (gI Y 98 (14 + r)) ||| 2 ^ i) := by
              have := or_bit (k := vN (gI Y 98 (14 + r))) (j := i) (by omega)
              rw [← s2] at this
              exact this
            show T_X10_assignAll_47 N (L_X10_assignAll_47 N n) _ _ _ _ _ = _
            unfold T_X10_assignAll_47 B_X10_assignAll_89
            rw [s.2.1, hb.Q.1, if_neg (nI_ge (by omega) (by omega)), b2_of (hc Y s), if_pos ha, b2_of (hcnt Y s), if_neg (nI_ge (by omega) (by omega)), b2_of (a6 Y s).1, if_neg (fun e => by cases (oI_none (s := some r) (fun k hk => by cases hk; omega)).mp e), show oI (some r) = nI r from rfl, show (14 : Int32) + nI r = nI (14 + r) from nI_add 14 r, gd_t (inb_nI (by omega) (by omega)), nI_clamp (by omega), hor, wr_eq, nI_1]
            exact g1
    · obtain ⟨c', X', e1, e2, e3⟩ := ih n (i + 1) c X hb hde (by omega) (by omega)
      refine ⟨c', X', ?_, e2, fun Y s => ?_⟩
      · show T_X9_assignAll_34 N (L_X9_assignAll_34 N n) _ _ _ _ _ = _
        unfold T_X9_assignAll_34
        rw [gd_t (st_k hb.s), hb.cQ, if_neg (nI_ge (by omega) (by omega)), gd_t (st_ok hb.s (by omega) (by omega) (show i < 16 by omega)), st_rt hb.s (by omega) (by omega), nI_clamp (by omega), show gI X (gR X 0 7 + (9 - 2)) i = gI X 96 (59 + 5 * i) from (hb.rowP hiq).1, if_neg ha, nI_1]
        exact e1
      · obtain ⟨Y', g1, g2⟩ := e3 Y s
        refine ⟨Y', ?_, g2⟩
        show T_X10_assignAll_47 N (L_X10_assignAll_47 N n) _ _ _ _ _ = _
        unfold T_X10_assignAll_47 B_X10_assignAll_88 B_X10_assignAll_89
        rw [s.2.1, hb.Q.1, if_neg (nI_ge (by omega) (by omega)), b2_of (hc Y s), if_neg ha, if_pos rfl, nI_1]
        exact g1
theorem all_out {N : Nat} (hN : 17 < N) {gr li : Int32} (a : Int32) : ∀ d n k (c : Int32) (X : Mem), RelB X → deOK X → k + d = vN (gI X 96 3) + 1 → d < n → ∃ (c' : Int32) (X' : Mem), L_X9_assignAll_20 N n a c (nI k) X = some (c', X') ∧ FrC X X' ∧
    ∀ Y, Sim gr li X Y → ∃ Y', L_X10_assignAll_34 N n a c (nI k) Y = some (c', Y') ∧ Sim gr li X' Y' ∧ FrM Y Y' := by
  intro d
  induction d with
  | zero =>
    intro n k c X hb hde hi hn
    obtain ⟨p1, p2, p3, p4⟩ := hb.per
    obtain ⟨n, rfl⟩ : ∃ k, n = k + 1 := ⟨n - 1, by omega⟩
    refine ⟨c, X, ?_, FrC.refl X, fun Y s => ⟨Y, ?_, s, FrM.refl Y⟩⟩
    · show T_X9_assignAll_20 N (L_X9_assignAll_20 N n) _ _ _ _ = _
      unfold T_X9_assignAll_20
      rw [gd_t (st_k hb.s), p4, p1, if_pos (nI_lt (by omega) (by omega))]
    · show T_X10_assignAll_34 N (L_X10_assignAll_34 N n) _ _ _ _ = _
      unfold T_X10_assignAll_34
      rw [s.2.1, p1, if_pos (nI_lt (by omega) (by omega))]
  | succ d ih =>
    intro n k c X hb hde hi hn
    have hQ := hb.Q.2
    obtain ⟨p1, p2, p3, p4⟩ := hb.per
    obtain ⟨n, rfl⟩ : ∃ k, n = k + 1 := ⟨n - 1, by omega⟩
    obtain ⟨c1, X1, a1, a2, a3⟩ := all_in (N := N) (by omega) (gr := gr) (li := li) a (show k ≤ 4 by omega) (nQ X) N 0 c X hb hde (by omega) (by omega)
    obtain ⟨c2, X2, b1, b2, b3⟩ := ih n (k + 1) c1 X1 (a2.b hb) (a2.de hde) (by rw [a2.1 96 (by omega)]; omega) (by omega)
    refine ⟨c2, X2, ?_, a2.trans b2, fun Y s => ?_⟩
    · show T_X9_assignAll_20 N (L_X9_assignAll_20 N n) _ _ _ _ = _
      unfold T_X9_assignAll_20
      rw [gd_t (st_k hb.s), p4, p1, if_neg (nI_nlt (by omega) (by omega)), l4_of (show L_X9_assignAll_34 N N a c (nI k) 0 X = _ from a1), nI_1]
      exact b1
    · obtain ⟨Y1, g1, g2, g3⟩ := a3 Y s
      obtain ⟨Y2, k1, k2, k3⟩ := b3 Y1 g2
      refine ⟨Y2, ?_, k2, g3.trans k3⟩
      show T_X10_assignAll_34 N (L_X10_assignAll_34 N n) _ _ _ _ = _
      unfold T_X10_assignAll_34
      rw [s.2.1, p1, if_neg (nI_nlt (by omega) (by omega)), l4_of (show L_X10_assignAll_47 N N a c (nI k) 0 Y = _ from g1), nI_1]
      exact k1
theorem op_assignAll {N : Nat} (hN : 3000 < N) : Op_assignAll N := by
  intro m hR a
  by_cases ha : inR a (nP m) = true
  · obtain ⟨C, hC, eC⟩ := c_remember N hR.hist
    have hCb : RelB C := hR.b.keep (eC.k (by omega)) (eC.k (by omega)) (fun k k1 k2 => eC.k (by omega)) (eC.r 0 7) (eC.r 0 8)
    have hCd : deOK C := fun r hr => by rw [eC.k (by omega), eC.k (by omega)]; exact hR.de hr
    obtain ⟨p1, p2, p3, p4⟩ := hCb.per
    obtain ⟨c, X, e1, e2, e3⟩ := all_out (N := N) (by omega) (gr := gI m 3 2) (li := gI m 3 3) a (vN (gI C 96 3)) N 1 0 C hCb hCd (by omega) (by omega)
    have hX : ∀ k, k ≠ 3 → k ≠ 4 → k ≠ 5 → gI X k = gI C k := fun k _ q _ => e2.1 k q
    obtain ⟨K, hK, eK⟩ := hR.kept hN eC hX c.toInt64
    obtain ⟨xb1, xb2⟩ := hR.xb eC hX e2.2 c.toInt64
    have k98 : gI K 98 = gI m 98 := by rw [kx eK (by omega) (by omega), hX 98 (by omega) (by omega) (by omega), eC.k (by omega)]
    have k96 : gI K 96 = gI C 96 := by rw [kx eK (by omega) (by omega), hX 96 (by omega) (by omega) (by omega)]
    have hS : Sim (gI m 3 2) (gI m 3 3) C K := by
      refine ⟨xb2.keep ?_ ?_ (fun k k1 k2 => ?_) (eK.r 0 7) (eK.r 0 8), k96, ?_⟩
      · rw [kx eK (by omega) (by omega)]
        funext j
        rw [gI_sI, if_neg (by omega), gI_sJ]
      · rw [kx eK (by omega) (by omega)]
        funext j
        rw [gI_sI, if_neg (by omega), gI_sJ]
      · rw [kx eK (by omega) (by omega)]
        funext j
        rw [gI_sI, if_neg (by omega), gI_sJ]
      · rw [k98, eC.k (by omega), eC.k (by omega), eC.k (by omega)]
        exact hR.st
    obtain ⟨Y, g1, g2, g3⟩ := e3 K hS
    refine ⟨0, sJ X 108 0 c.toInt64, c, Y, ?_, ?_, ?_, fun _ => ?_, ?_⟩
    · unfold f_L_assignAll f_X9_assignAll
      rw [x1_of (by rw [c_checkPanel N hR.b, if_pos ha]), b1_of hC, l2_of (show L_X9_assignAll_20 N N a 0 1 C = _ from e1)]
      rfl
    · unfold f_X10_assignAll B_X10_assignAll_14
      have hnP : nP (sJ X 108 0 c.toInt64) = nP m := by
        unfold nP
        rw [gI_sJ, hX 96 (by omega) (by omega) (by omega), eC.k (by omega)]
      rw [b2_of (m_isPanel N xb1 a), hnP, if_pos ha, if_neg (by decide), rs_ok, b1_of hK, l2_of (show L_X10_assignAll_34 N N a 0 1 K = _ from g1)]
    · rw [g3.1 95 (by omega), eK.k (by omega) (by omega), gI_sI, if_pos ⟨rfl, rfl⟩]
    · rw [g3.2.2, eK.j, gJ_sI, gJ_sJ, if_pos ⟨rfl, rfl⟩]
    · refine hR.push' eC hX e2.2 eK (fun k hk => g3.1 k hk) (fun k b => g3.2.1 k b) (gr := gI m 3 2) (li := gI m 3 3) (sc := gI X 4) (de := gI X 5) (W := gI Y 98) ?_ ?_ ?_ rfl rfl rfl
      · have := g2.2.2
        rw [e2.1 96 (by omega), eC.k (by omega)] at this
        exact this
      · rw [e2.1 3 (by omega), eC.k (by omega)]
      · rw [e2.1 3 (by omega), eC.k (by omega)]
  · refine OpI.no hR (v := 1) (w := 0) (by decide) ?_ ?_ (Or.inl rfl)
    · unfold f_L_assignAll f_X9_assignAll
      rw [x1_th (by rw [c_checkPanel N hR.b, if_neg ha])]
      rfl
    · unfold f_X10_assignAll B_X10_assignAll_14
      rw [b2_of (m_isPanel N hR.b a), if_neg ha, if_pos rfl, rs_no _ (by decide)]
