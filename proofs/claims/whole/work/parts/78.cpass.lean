/-! THE CLASS'S MATCHING: passes in memory -/
def oR : Option Nat → Int32
  | none => -1
  | some u => nI (u - 16)
def CW (m : Mem) (pa : Int32) (M : Mem) : Prop := gI M 51 8 = nI (nR m) ∧ gI M 51 9 = nI (nQ m) ∧ ∀ r p, r < nR m → p < nQ m → gI M 52 (16 * r + p) = if Em m pa r p then nI (mat m r p) else -1
def CU (m : Mem) (F : Nat → Nat → Bool) (M : Mem) : Prop := ∀ r p, r < nR m → p < nQ m → gI M 53 (16 * r + p) = bI (F r p)
def CG (m : Mem) (g : Nat → Int) (f : Nat → Option Nat) (M : Mem) : Prop := (∀ r, r < 12 → gI M 56 r = zI (g (16 + r)) ∧ gI M 57 r = oI (f (16 + r))) ∧ (∀ p, p < nQ m → gI M 58 p = zI (g p)) ∧ (∀ p, p < 16 → gI M 59 p = oR (f p))
def FrX (a b : Nat) (m M : Mem) : Prop := (∀ k, k ≠ a → k ≠ b → gI M k = gI m k) ∧ (∀ k j, gR M k j = gR m k j) ∧ (∀ k j, gJ M k j = gJ m k j) ∧ (∀ k j, gD M k j = gD m k j)
theorem FrX.refl (a b : Nat) (m : Mem) : FrX a b m m := ⟨fun _ _ _ => rfl, fun _ _ => rfl, fun _ _ => rfl, fun _ _ => rfl⟩
theorem FrX.trans {a b : Nat} {x y z : Mem} (h : FrX a b x y) (h' : FrX a b y z) : FrX a b x z := ⟨fun k k1 k2 => (h'.1 k k1 k2).trans (h.1 k k1 k2), fun k j => (h'.2.1 k j).trans (h.2.1 k j), fun k j => (h'.2.2.1 k j).trans (h.2.2.1 k j), fun k j => (h'.2.2.2 k j).trans (h.2.2.2 k j)⟩
theorem FrX.two (a b : Nat) (m : Mem) (i j : Nat) (v w : Int32) : FrX a b m (sI (sI m a i v) b j w) := ⟨fun k k1 k2 => by rw [sI_ne _ _ k2, sI_ne _ _ k1], fun _ _ => rfl, fun _ _ => rfl, fun _ _ => rfl⟩
theorem CW.keep {m : Mem} {pa : Int32} {M X : Mem} (h : CW m pa M) (e1 : gI X 51 = gI M 51) (e2 : gI X 52 = gI M 52) : CW m pa X := by
  unfold CW at *
  rw [e1, e2]
  exact h
theorem CU.keep {m : Mem} {F : Nat → Nat → Bool} {M X : Mem} (h : CU m F M) (e : gI X 53 = gI M 53) : CU m F X := by
  unfold CU at *
  rw [e]
  exact h
theorem arc_ok {m : Mem} {pa : Int32} {F : Nat → Nat → Bool} {y x : Nat} (hy : y < 16) (hx : x < 12) (h : arcA (Em m pa) F y (16 + x) = true) : x < nR m ∧ y < nQ m := by
  have := Em_iff.mp ((arc_pr hx hy).mp h).1
  exact ⟨this.1, this.2.1⟩
theorem c_paIn {N : Nat} {m : Mem} {pa : Int32} {F : Nat → Nat → Bool} {h g0 : Nat → Int} {f0 : Nat → Option Nat} (S : Srch m pa F h) (hR12 : nR m ≤ 12) (hQ16 : nQ m ≤ 16) {p : Nat} (hp : p < nQ m) : ∀ d n r (b : Bool) g f M, r + d = nR m → d < n → CW m pa M → CU m F M → CG m g f M → PA m pa F h g0 f0 b g f p r →
    ∃ b' g' f' M', L_X4_reachReviewers_14 N n (bI b) (nI p) (nI r) M = some (bI b', nI p, M') ∧ FrX 56 57 M M' ∧ CG m g' f' M' ∧ PA m pa F h g0 f0 b' g' f' (p + 1) 0 := by
  intro d
  induction d with
  | zero =>
    intro n r b g f M hd hn hw hu hg H
    obtain ⟨n, rfl⟩ : ∃ k, n = k + 1 := ⟨n - 1, by omega⟩
    refine ⟨b, g, f, M, ?_, FrX.refl _ _ M, hg, H.to (fun y x hy hx hd' hnd ha hr => ?_)⟩
    · show T_X4_reachReviewers_14 N (L_X4_reachReviewers_14 N n) _ _ _ _ = _
      unfold T_X4_reachReviewers_14
      rw [hw.1, if_pos (nI_le (by omega) (by omega))]
    · have := arc_ok hy hx ha
      omega
  | succ d ih =>
    intro n r b g f M hd hn hw hu hg H
    obtain ⟨n, rfl⟩ : ∃ k, n = k + 1 := ⟨n - 1, by omega⟩
    have hr : r < nR m := by omega
    have hG := H.1
    have rngp := hG.rng S.2 (show p < 28 by omega)
    have rngr := hG.rng S.2 (show 16 + r < 28 by omega)
    have hml := mat_le m r p
    have ep := (H.2.1 p (by omega)).1
    show ∃ b' g' f' M', T_X4_reachReviewers_14 N (L_X4_reachReviewers_14 N n) _ _ _ _ = _ ∧ _
    unfold T_X4_reachReviewers_14
    rw [hw.1, if_neg (nI_ge hr (by omega)), gd_t (inb_nI (by omega) (by omega)), nI_clamp (by omega), hg.2.1 p hp]
    by_cases hz : g p = FAR
    · rw [if_pos (by rw [hz]; rfl)]
      refine ⟨b, g, f, M, rfl, FrX.refl _ _ M, hg, H.to (fun y x hy hx hd' hnd ha hr' => ?_)⟩
      have e : y = p := by omega
      rw [e, ← ep] at hr'
      exact absurd hz hr'
    · have rp := rngp.resolve_left hz
      have hcell : f_X9_cell N (nI r) (nI p) M = some (nI (16 * r + p), M) := by
        unfold f_X9_cell
        rw [cell_nI]
      rw [if_neg (show ¬ zI (g p) = (-1000000 : Int32) from fun e => hz ((zI_eq (by unfold zB FAR at *; omega) (by unfold zB FAR; omega)).mp (show zI (g p) = zI FAR from e))), b2_of hcell, gd_t (inb_nI (by omega) (by omega)), nI_clamp (show 16 * r + p < 2 ^ 31 by omega), hw.2.2 r p hr hp, hu r p hr hp, nI_clamp (show r < 2 ^ 31 by omega), (hg.1 r (by omega)).1, hg.2.1 p hp, nI_1]
      have skip : ¬ (arcA (Em m pa) F p (16 + r) = true ∧ g (16 + r) < g p + mat m r p) → ∃ b' g' f' M', L_X4_reachReviewers_14 N n (bI b) (nI p) (nI (r + 1)) M = some (bI b', nI p, M') ∧ FrX 56 57 M M' ∧ CG m g' f' M' ∧ PA m pa F h g0 f0 b' g' f' (p + 1) 0 := by
        intro hno
        refine ih n (r + 1) b g f M (by omega) (by omega) hw hu hg (H.to (fun y x hy hx hd' hnd ha hr' => ?_))
        have e1 : y = p := by omega
        have e2 : x = r := by omega
        rw [e1, e2] at ha
        rw [e1, e2, ← ep]
        apply Classical.byContradiction
        intro hh
        exact hno ⟨ha, by omega⟩
      cases hE : Em m pa r p
      · rw [if_neg (show ¬ (false = true) by decide), if_pos rfl]
        exact skip (fun hh => by rw [((arc_pr (by omega) (by omega)).mp hh.1).1] at hE; cases hE)
      · rw [if_pos (show true = true from rfl), if_neg (show ¬ nI (mat m r p) = (-1 : Int32) from fun e => nI_pos (n := mat m r p) (by omega) (by rw [e]; decide))]
        cases hF : F r p
        · have ha : arcA (Em m pa) F p (16 + r) = true := (arc_pr (by omega) (by omega)).mpr ⟨hE, hF⟩
          rw [if_pos (show bI false = 0 from rfl), gd_t (inb_nI (by omega) (by omega)), ← zI_nI (mat m r p), zI_add]
          have hle := zI_le (a := g p + mat m r p) (b := g (16 + r)) (by unfold zB; omega) (by unfold zB FAR at *; omega)
          by_cases hl : g (16 + r) < g p + mat m r p
          · rw [if_neg (fun e => by have := hle.mp e; omega), wr_eq, wr_eq]
            have H' := H.upd S (by omega) (by omega) ha hz hl
            have hg' : CG m (upO g (16 + r) (g p + mat m r p)) (upO f (16 + r) (some p)) (sI (sI M 56 r (zI (g p + mat m r p))) 57 r (nI p)) := by
              refine ⟨fun x hx => ?_, fun y hy => ?_, fun y hy => ?_⟩
              · by_cases e : x = r
                · rw [e, upO_same, upO_same, sI_ne _ _ (by omega), gI_sI, if_pos ⟨rfl, rfl⟩, gI_sI, if_pos ⟨rfl, rfl⟩]
                  exact ⟨rfl, rfl⟩
                · rw [upO_ne _ _ (by omega), upO_ne _ _ (by omega), sI_ne _ _ (by omega), gI_sI, if_neg (by omega), gI_sI, if_neg (by omega), sI_ne _ _ (by omega)]
                  exact hg.1 x hx
              · rw [upO_ne _ _ (by omega), sI_ne _ _ (by omega), sI_ne _ _ (by omega)]
                exact hg.2.1 y hy
              · rw [upO_ne _ _ (by omega), sI_ne _ _ (by omega), sI_ne _ _ (by omega)]
                exact hg.2.2 y hy
            obtain ⟨b', g', f', M', a1, a2, a3, a4⟩ := ih n (r + 1) true _ _ (sI (sI M 56 r (zI (g p + mat m r p))) 57 r (nI p)) (by omega) (by omega) (hw.keep (by rw [sI_ne _ _ (by omega), sI_ne _ _ (by omega)]) (by rw [sI_ne _ _ (by omega), sI_ne _ _ (by omega)])) (hu.keep (by rw [sI_ne _ _ (by omega), sI_ne _ _ (by omega)])) hg' H'
            exact ⟨b', g', f', M', a1, (FrX.two 56 57 M _ _ _ _).trans a2, a3, a4⟩
          · rw [if_pos (hle.mpr (by omega))]
            exact skip (fun hh => hl hh.2)
        · rw [if_neg (show ¬ bI true = 0 by decide)]
          exact skip (fun hh => by rw [((arc_pr (by omega) (by omega)).mp hh.1).2] at hF; cases hF)
theorem c_paOut {N : Nat} (hN : 17 < N) {m : Mem} {pa : Int32} {F : Nat → Nat → Bool} {h g0 : Nat → Int} {f0 : Nat → Option Nat} (S : Srch m pa F h) (hR12 : nR m ≤ 12) (hQ16 : nQ m ≤ 16) : ∀ d n p (b : Bool) g f M, p + d = nQ m → d < n → CW m pa M → CU m F M → CG m g f M → PA m pa F h g0 f0 b g f p 0 →
    ∃ b' g' f' M', L_X4_reachReviewers_4 N n (bI b) (nI p) M = some (bI b', M') ∧ FrX 56 57 M M' ∧ CG m g' f' M' ∧ PA m pa F h g0 f0 b' g' f' 16 0 := by
  intro d
  induction d with
  | zero =>
    intro n p b g f M hd hn hw hu hg H
    obtain ⟨n, rfl⟩ : ∃ k, n = k + 1 := ⟨n - 1, by omega⟩
    refine ⟨b, g, f, M, ?_, FrX.refl _ _ M, hg, H.to (fun y x hy hx hd' hnd ha hr => ?_)⟩
    · show T_X4_reachReviewers_4 N (L_X4_reachReviewers_4 N n) _ _ _ = _
      unfold T_X4_reachReviewers_4
      rw [hw.2.1, if_pos (nI_le (by omega) (by omega))]
    · have := arc_ok hy hx ha
      omega
  | succ d ih =>
    intro n p b g f M hd hn hw hu hg H
    obtain ⟨n, rfl⟩ : ∃ k, n = k + 1 := ⟨n - 1, by omega⟩
    obtain ⟨b1, g1, f1, M1, a1, a2, a3, a4⟩ := c_paIn (N := N) S hR12 hQ16 (show p < nQ m by omega) (nR m) N 0 b g f M (by omega) (by omega) hw hu hg H
    obtain ⟨b', g', f', M', c1, c2, c3, c4⟩ := ih n (p + 1) b1 g1 f1 M1 (by omega) (by omega) (hw.keep (a2.1 51 (by omega) (by omega)) (a2.1 52 (by omega) (by omega))) (hu.keep (a2.1 53 (by omega) (by omega))) a3 a4
    refine ⟨b', g', f', M', ?_, a2.trans c2, c3, c4⟩
    show T_X4_reachReviewers_4 N (L_X4_reachReviewers_4 N n) _ _ _ = _
    unfold T_X4_reachReviewers_4
    rw [hw.2.1, if_neg (nI_ge (by omega) (by omega)), l3_of (show L_X4_reachReviewers_14 N N (bI b) (nI p) 0 M = _ from a1), nI_1]
    exact c1
theorem c_pbIn {N : Nat} {m : Mem} {pa : Int32} {F : Nat → Nat → Bool} {h g0 : Nat → Int} {f0 : Nat → Option Nat} (S : Srch m pa F h) (hR12 : nR m ≤ 12) (hQ16 : nQ m ≤ 16) {r : Nat} (hr : r < nR m) : ∀ d n p (b : Bool) g f M, p + d = nQ m → d < n → CW m pa M → CU m F M → CG m g f M → PB m pa F h g0 f0 b g f r p →
    ∃ b' g' f' M', L_X4_reachProposals_14 N n (bI b) (nI r) (nI p) M = some (bI b', nI r, M') ∧ FrX 58 59 M M' ∧ CG m g' f' M' ∧ PB m pa F h g0 f0 b' g' f' (r + 1) 0 := by
  have fok : ∀ x y, x < 12 → y < 16 → F x y = true → x < nR m ∧ y < nQ m := fun x y hx hy hf => by
    have := Em_iff.mp (S.1.1 x y hx hy hf)
    exact ⟨this.1, this.2.1⟩
  intro d
  induction d with
  | zero =>
    intro n p b g f M hd hn hw hu hg H
    obtain ⟨n, rfl⟩ : ∃ k, n = k + 1 := ⟨n - 1, by omega⟩
    refine ⟨b, g, f, M, ?_, FrX.refl _ _ M, hg, H.to (fun x y hx hy hd' hnd ha hr' => ?_)⟩
    · show T_X4_reachProposals_14 N (L_X4_reachProposals_14 N n) _ _ _ _ = _
      unfold T_X4_reachProposals_14
      rw [hw.2.1, if_pos (nI_le (by omega) (by omega))]
    · have := fok x y hx hy ha
      omega
  | succ d ih =>
    intro n p b g f M hd hn hw hu hg H
    obtain ⟨n, rfl⟩ : ∃ k, n = k + 1 := ⟨n - 1, by omega⟩
    have hp : p < nQ m := by omega
    have hG := H.1
    have rngp := hG.rng S.2 (show p < 28 by omega)
    have rngr := hG.rng S.2 (show 16 + r < 28 by omega)
    have hml := mat_le m r p
    have er := (H.2.1 r (by omega)).1
    show ∃ b' g' f' M', T_X4_reachProposals_14 N (L_X4_reachProposals_14 N n) _ _ _ _ = _ ∧ _
    unfold T_X4_reachProposals_14
    rw [hw.2.1, if_neg (nI_ge hp (by omega)), gd_t (inb_nI (by omega) (by omega)), nI_clamp (by omega), (hg.1 r (by omega)).1]
    by_cases hz : g (16 + r) = FAR
    · rw [if_pos (by rw [hz]; rfl)]
      refine ⟨b, g, f, M, rfl, FrX.refl _ _ M, hg, H.to (fun x y hx hy hd' hnd ha hr' => ?_)⟩
      have e : x = r := by omega
      rw [e, ← er] at hr'
      exact absurd hz hr'
    · have rr := rngr.resolve_left hz
      have hcell : f_X9_cell N (nI r) (nI p) M = some (nI (16 * r + p), M) := by
        unfold f_X9_cell
        rw [cell_nI]
      rw [if_neg (show ¬ zI (g (16 + r)) = (-1000000 : Int32) from fun e => hz ((zI_eq (by unfold zB FAR at *; omega) (by unfold zB FAR; omega)).mp (show zI (g (16 + r)) = zI FAR from e))), b2_of hcell, gd_t (inb_nI (by omega) (by omega)), nI_clamp (show 16 * r + p < 2 ^ 31 by omega), hw.2.2 r p hr hp, hu r p hr hp, (hg.1 r (by omega)).1, nI_1]
      have skip : ¬ (F r p = true ∧ g p < g (16 + r) - mat m r p) → ∃ b' g' f' M', L_X4_reachProposals_14 N n (bI b) (nI r) (nI (p + 1)) M = some (bI b', nI r, M') ∧ FrX 58 59 M M' ∧ CG m g' f' M' ∧ PB m pa F h g0 f0 b' g' f' (r + 1) 0 := by
        intro hno
        refine ih n (p + 1) b g f M (by omega) (by omega) hw hu hg (H.to (fun x y hx hy hd' hnd ha hr' => ?_))
        have e1 : y = p := by omega
        have e2 : x = r := by omega
        rw [e1, e2] at ha
        rw [e1, e2, ← er]
        apply Classical.byContradiction
        intro hh
        exact hno ⟨ha, by omega⟩
      cases hF : F r p
      · rw [if_pos (show bI false = 0 from rfl)]
        exact skip (fun hh => by rw [hF] at hh; cases hh.1)
      · have hE : Em m pa r p = true := S.1.1 r p (by omega) (by omega) hF
        rw [if_neg (show ¬ bI true = 0 by decide), gd_t (inb_nI (by omega) (by omega)), nI_clamp (by omega), hE, if_pos (show true = true from rfl), hg.2.1 p hp, ← zI_nI (mat m r p), zI_sub]
        have hle := zI_le (a := g (16 + r) - mat m r p) (b := g p) (by unfold zB; omega) (by unfold zB FAR at *; omega)
        by_cases hl : g p < g (16 + r) - mat m r p
        · rw [if_neg (fun e => by have := hle.mp e; omega), wr_eq, wr_eq]
          have H' := H.upd S (by omega) (by omega) hF hz hl
          have hg' : CG m (upO g p (g (16 + r) - mat m r p)) (upO f p (some (16 + r))) (sI (sI M 58 p (zI (g (16 + r) - mat m r p))) 59 p (nI r)) := by
            refine ⟨fun x hx => ?_, fun y hy => ?_, fun y hy => ?_⟩
            · rw [upO_ne _ _ (by omega), upO_ne _ _ (by omega), sI_ne _ _ (by omega), sI_ne _ _ (by omega), sI_ne _ _ (by omega), sI_ne _ _ (by omega)]
              exact hg.1 x hx
            · rw [sI_ne _ _ (by omega), gI_sI]
              by_cases e : y = p
              · rw [if_pos ⟨rfl, e⟩, e, upO_same]
              · rw [if_neg (by omega), upO_ne _ _ e]
                exact hg.2.1 y hy
            · rw [gI_sI]
              by_cases e : y = p
              · rw [if_pos ⟨rfl, e⟩, e, upO_same]
                show nI r = nI (16 + r - 16)
                rw [show 16 + r - 16 = r by omega]
              · rw [if_neg (by omega), upO_ne _ _ e, sI_ne _ _ (by omega)]
                exact hg.2.2 y hy
          obtain ⟨b', g', f', M', a1, a2, a3, a4⟩ := ih n (p + 1) true _ _ (sI (sI M 58 p (zI (g (16 + r) - mat m r p))) 59 p (nI r)) (by omega) (by omega) (hw.keep (by rw [sI_ne _ _ (by omega), sI_ne _ _ (by omega)]) (by rw [sI_ne _ _ (by omega), sI_ne _ _ (by omega)])) (hu.keep (by rw [sI_ne _ _ (by omega), sI_ne _ _ (by omega)])) hg' H'
          exact ⟨b', g', f', M', a1, (FrX.two 58 59 M _ _ _ _).trans a2, a3, a4⟩
        · rw [if_pos (hle.mpr (by omega))]
          exact skip (fun hh => hl hh.2)
theorem c_pbOut {N : Nat} (hN : 17 < N) {m : Mem} {pa : Int32} {F : Nat → Nat → Bool} {h g0 : Nat → Int} {f0 : Nat → Option Nat} (S : Srch m pa F h) (hR12 : nR m ≤ 12) (hQ16 : nQ m ≤ 16) : ∀ d n r (b : Bool) g f M, r + d = nR m → d < n → CW m pa M → CU m F M → CG m g f M → PB m pa F h g0 f0 b g f r 0 →
    ∃ b' g' f' M', L_X4_reachProposals_4 N n (bI b) (nI r) M = some (bI b', M') ∧ FrX 58 59 M M' ∧ CG m g' f' M' ∧ PB m pa F h g0 f0 b' g' f' 12 0 := by
  intro d
  induction d with
  | zero =>
    intro n r b g f M hd hn hw hu hg H
    obtain ⟨n, rfl⟩ : ∃ k, n = k + 1 := ⟨n - 1, by omega⟩
    refine ⟨b, g, f, M, ?_, FrX.refl _ _ M, hg, H.to (fun x y hx hy hd' hnd ha hr => ?_)⟩
    · show T_X4_reachProposals_4 N (L_X4_reachProposals_4 N n) _ _ _ = _
      unfold T_X4_reachProposals_4
      rw [hw.1, if_pos (nI_le (by omega) (by omega))]
    · have := (Em_iff.mp (S.1.1 x y hx hy ha)).1
      omega
  | succ d ih =>
    intro n r b g f M hd hn hw hu hg H
    obtain ⟨n, rfl⟩ : ∃ k, n = k + 1 := ⟨n - 1, by omega⟩
    obtain ⟨b1, g1, f1, M1, a1, a2, a3, a4⟩ := c_pbIn (N := N) S hR12 hQ16 (show r < nR m by omega) (nQ m) N 0 b g f M (by omega) (by omega) hw hu hg H
    obtain ⟨b', g', f', M', c1, c2, c3, c4⟩ := ih n (r + 1) b1 g1 f1 M1 (by omega) (by omega) (hw.keep (a2.1 51 (by omega) (by omega)) (a2.1 52 (by omega) (by omega))) (hu.keep (a2.1 53 (by omega) (by omega))) a3 a4
    refine ⟨b', g', f', M', ?_, a2.trans c2, c3, c4⟩
    show T_X4_reachProposals_4 N (L_X4_reachProposals_4 N n) _ _ _ = _
    unfold T_X4_reachProposals_4
    rw [hw.1, if_neg (nI_ge (by omega) (by omega)), l3_of (show L_X4_reachProposals_14 N N (bI b) (nI r) 0 M = _ from a1), nI_1]
    exact c1
/-- what stays while ways are looked for -/
def FrP (m M : Mem) : Prop := (∀ k, ¬ (56 ≤ k ∧ k ≤ 59) → gI M k = gI m k) ∧ (∀ k j, gR M k j = gR m k j) ∧ (∀ k j, gJ M k j = gJ m k j) ∧ (∀ k j, gD M k j = gD m k j)
theorem FrP.trans {x y z : Mem} (h : FrP x y) (h' : FrP y z) : FrP x z := ⟨fun k k1 => (h'.1 k k1).trans (h.1 k k1), fun k j => (h'.2.1 k j).trans (h.2.1 k j), fun k j => (h'.2.2.1 k j).trans (h.2.2.1 k j), fun k j => (h'.2.2.2 k j).trans (h.2.2.2 k j)⟩
theorem FrX.p {a b : Nat} (ha : 56 ≤ a ∧ a ≤ 59) (hb : 56 ≤ b ∧ b ≤ 59) {m M : Mem} (h : FrX a b m M) : FrP m M := ⟨fun k hk => h.1 k (by omega) (by omega), h.2.1, h.2.2.1, h.2.2.2⟩
theorem c_rounds {N : Nat} (hN : 17 < N) {m : Mem} {pa : Int32} {F : Nat → Nat → Bool} {h : Nat → Int} (S : Srch m pa F h) (hR12 : nR m ≤ 12) (hQ16 : nQ m ≤ 16) : ∀ d n i g f M, i + d = 12 → d + 1 < n → CW m pa M → CU m F M → CG m g f M → GIm m pa F h g f → FXB m F g → JJ m pa F h g i →
    ∃ g' f' M', (L_X4_findPaths_64 N n (nI i) M).bind (fun x9 => match x9 with | .inl (m_15) => some (m_15) | .inr (m_15) => some (m_15)) = some M' ∧ FrP M M' ∧ CG m g' f' M' ∧ GIm m pa F h g' f' ∧ FX (arcA (Em m pa) F) (arcC (mat m)) g' := by
  intro d
  induction d with
  | zero =>
    intro n i g f M hd hn hw hu hg hG hB hJ
    obtain ⟨n, rfl⟩ : ∃ k, n = k + 1 := ⟨n - 1, by omega⟩
    obtain ⟨b1, g1, f1, M1, a1, a2, a3, a4⟩ := c_paOut hN S hR12 hQ16 (nQ m) N 0 false g f M (by omega) (by omega) hw hu hg (PA.start hG)
    have hf1 : f_X4_reachReviewers N M = some (bI b1, M1) := by
      unfold f_X4_reachReviewers
      rw [l2_of (show L_X4_reachReviewers_4 N N 0 0 M = _ from a1), gd_t (by cases b1 <;> rfl)]
    have hK := J_K S hG a4 hB hJ
    have hB1 := K_end hK (by omega)
    obtain ⟨b2, g2, f2, M2, c1, c2, c3, c4⟩ := c_pbOut hN S hR12 hQ16 (nR m) N 0 false g1 f1 M1 (by omega) (by omega) (hw.keep (a2.1 51 (by omega) (by omega)) (a2.1 52 (by omega) (by omega))) (hu.keep (a2.1 53 (by omega) (by omega))) a3 (PB.start a4.1)
    have hf2 : f_X4_reachProposals N M1 = some (bI b2, M2) := by
      unfold f_X4_reachProposals
      rw [l2_of (show L_X4_reachProposals_4 N N 0 0 M1 = _ from c1), gd_t (by cases b2 <;> rfl)]
    show ∃ g' f' M', (T_X4_findPaths_64 N (L_X4_findPaths_64 N n) _ _).bind _ = _ ∧ _
    unfold T_X4_findPaths_64
    obtain rfl : i = 12 := by omega
    rw [if_neg (by decide), b2_of hf1]
    cases b1
    · obtain ⟨e1, e2⟩ := a4.2.2.2.2.1 rfl
      refine ⟨g1, f1, M1, rfl, a2.p (by omega) (by omega), a3, a4.1, FX.of a4.fx hB1⟩
    · rw [if_neg (show ¬ bI true = 0 by decide), b2_of hf2]
      cases b2
      · obtain ⟨e1, e2⟩ := c4.2.2.2.2.1 rfl
        refine ⟨g2, f2, M2, rfl, (a2.p (by omega) (by omega)).trans (c2.p (by omega) (by omega)), c3, c4.1, ?_⟩
        rw [e1]
        exact FX.of a4.fx hB1
      · obtain ⟨x, y, hx, hy, hv⟩ := c4.2.2.2.2.2.1 rfl
        exact absurd hv (hB1 x y hx hy)
  | succ d ih =>
    intro n i g f M hd hn hw hu hg hG hB hJ
    obtain ⟨n, rfl⟩ : ∃ k, n = k + 1 := ⟨n - 1, by omega⟩
    obtain ⟨b1, g1, f1, M1, a1, a2, a3, a4⟩ := c_paOut hN S hR12 hQ16 (nQ m) N 0 false g f M (by omega) (by omega) hw hu hg (PA.start hG)
    have hf1 : f_X4_reachReviewers N M = some (bI b1, M1) := by
      unfold f_X4_reachReviewers
      rw [l2_of (show L_X4_reachReviewers_4 N N 0 0 M = _ from a1), gd_t (by cases b1 <;> rfl)]
    have hK := J_K S hG a4 hB hJ
    have hw1 := hw.keep (a2.1 51 (by omega) (by omega)) (a2.1 52 (by omega) (by omega))
    have hu1 := hu.keep (a2.1 53 (by omega) (by omega))
    obtain ⟨b2, g2, f2, M2, c1, c2, c3, c4⟩ := c_pbOut hN S hR12 hQ16 (nR m) N 0 false g1 f1 M1 (by omega) (by omega) hw1 hu1 a3 (PB.start a4.1)
    have hf2 : f_X4_reachProposals N M1 = some (bI b2, M2) := by
      unfold f_X4_reachProposals
      rw [l2_of (show L_X4_reachProposals_4 N N 0 0 M1 = _ from c1), gd_t (by cases b2 <;> rfl)]
    have u1 := a2.p (by omega) (by omega)
    have u2 := u1.trans (c2.p (by omega) (by omega))
    show ∃ g' f' M', (T_X4_findPaths_64 N (L_X4_findPaths_64 N n) _ _).bind _ = _ ∧ _
    unfold T_X4_findPaths_64
    rw [if_neg (show ¬ (12 : Int32) < nI i from nI_nlt (a := 12) (by omega) (by omega)), b2_of hf1, nI_1]
    cases b1
    · obtain ⟨e1, e2⟩ := a4.2.2.2.2.1 rfl
      refine ⟨g1, f1, M1, rfl, u1, a3, a4.1, FX.of a4.fx (by rw [e1]; exact hB)⟩
    · rw [if_neg (show ¬ bI true = 0 by decide), b2_of hf2]
      cases b2
      · obtain ⟨e1, e2⟩ := c4.2.2.2.2.1 rfl
        refine ⟨g2, f2, M2, rfl, u2, c3, c4.1, FX.of (by rw [e1]; exact a4.fx) c4.fx⟩
      · rw [if_neg (show ¬ bI true = 0 by decide)]
        obtain ⟨g', f', M', x1, x2, x3, x4, x5⟩ := ih n (i + 1) g2 f2 M2 (by omega) (by omega) (hw1.keep (c2.1 51 (by omega) (by omega)) (c2.1 52 (by omega) (by omega))) (hu1.keep (c2.1 53 (by omega) (by omega))) c3 c4.1 c4.fx (K_J S c4 a4.fx hK)
        exact ⟨g', f', M', x1, u2.trans x2, x3, x4, x5⟩
