/-! THE MODEL'S MATCHING -/
def Em (m : Mem) (pa : Int32) (r p : Nat) : Bool := decide (r < nR m) && decide (p < nQ m) && decide (gI m 96 (59 + 5 * p) = pa) && fit m r p
def capM (m : Mem) (r : Nat) : Nat := if r < nR m then vN (gI m 96 (13 + 4 * r)) else 0
def eaM (m : Mem) (pa : Int32) (p : Nat) : Nat := if p < nQ m ∧ gI m 96 (59 + 5 * p) = pa then vN (gI m 96 3) else 0
theorem Em_iff {m : Mem} {pa : Int32} {r p : Nat} : Em m pa r p = true ↔ r < nR m ∧ p < nQ m ∧ gI m 96 (59 + 5 * p) = pa ∧ fit m r p = true := by
  unfold Em
  simp only [Bool.and_eq_true, decide_eq_true_eq]
  constructor
  · rintro ⟨⟨⟨a, b⟩, c⟩, d⟩
    exact ⟨a, b, c, d⟩
  · rintro ⟨a, b, c, d⟩
    exact ⟨⟨⟨a, b⟩, c⟩, d⟩
theorem SV.fit {a b : Mem} (h : SV a b) (r p : Nat) : fit b r p = fit a r p := by
  unfold _root_.Jvm.Pilot.CGrantAllocationLaw_law_r1805_5f9ff6.fit conf
  rw [h.1, h.2]
theorem SV.mat {a b : Mem} (h : SV a b) : mat b = mat a := by
  funext r p
  unfold _root_.Jvm.Pilot.CGrantAllocationLaw_law_r1805_5f9ff6.mat
  rw [h.1]
theorem SV.em {a b : Mem} (h : SV a b) (pa : Int32) : Em b pa = Em a pa := by
  funext r p
  unfold Em
  rw [h.r, h.q, h.1, h.fit]
theorem SV.cap {a b : Mem} (h : SV a b) : capM b = capM a := by
  funext r
  unfold capM
  rw [h.r, h.1]
theorem SV.ea {a b : Mem} (h : SV a b) (pa : Int32) : eaM b pa = eaM a pa := by
  funext p
  unfold eaM
  rw [h.q, h.1]
def ME (a b : Mem) : Prop := (∀ k, ¬ (101 ≤ k ∧ k ≤ 103) → gI b k = gI a k) ∧ (∀ k j, gR b k j = gR a k j) ∧ (∀ k j, gJ b k j = gJ a k j) ∧ (∀ k j, gD b k j = gD a k j)
theorem ME.refl (m : Mem) : ME m m := ⟨fun _ _ => rfl, fun _ _ => rfl, fun _ _ => rfl, fun _ _ => rfl⟩
theorem ME.trans {a b c : Mem} (h : ME a b) (h' : ME b c) : ME a c := ⟨fun k hk => (h'.1 k hk).trans (h.1 k hk), fun k j => (h'.2.1 k j).trans (h.2.1 k j), fun k j => (h'.2.2.1 k j).trans (h.2.2.1 k j), fun k j => (h'.2.2.2 k j).trans (h.2.2.2 k j)⟩
theorem ME.s (m : Mem) {k j : Nat} {v : Int32} (hk : 101 ≤ k ∧ k ≤ 103) : ME m (sI m k j v) := ⟨fun k' hk' => sI_ne _ _ (by omega), fun _ _ => rfl, fun _ _ => rfl, fun _ _ => rfl⟩
theorem ME.core {m M : Mem} (h : ME m M) : Core m M := by
  refine ⟨fun k hk => h.1 k (by omega), fun j _ => by rw [h.1 1 (by omega)], fun j hj => by rw [h.1 95 (by omega)], h.2.1 0 7, h.2.1 0 8, fun hc => ?_⟩
  unfold ChOK ChAt at *
  simp only [h.2.1]
  exact hc
theorem ME.v {m M : Mem} (h : ME m M) : SV m M := ⟨h.1 96 (by omega), h.1 98 (by omega)⟩
/-- the model's rows say F, g, f -/
def TkS (Y : Mem) (F : Nat → Nat → Bool) : Prop := ∀ r, r < 12 → ∃ k, k < 65536 ∧ gI Y 101 r = nI k ∧ ∀ p, p < 16 → k.testBit p = F r p
def GnS (Y : Mem) (g : Nat → Int) (f : Nat → Option Nat) : Prop := (∀ v, v < 28 → gI Y 102 v = zI (g v)) ∧ (∀ v, v < 28 → gI Y 103 v = oI (f v))
def bI (b : Bool) : Int32 := if b then 1 else 0
theorem bI_or (b : Bool) : bI b ||| 1 = 1 ∧ bI b ||| 0 = bI b := by cases b <;> decide
theorem zFAR : (-1000000 : Int32) = zI FAR := rfl
theorem far_le {x : Int} (h : x = FAR ∨ (-56 ≤ x ∧ x ≤ 54)) : (zI x ≤ (-1000000 : Int32)) ↔ x = FAR := by
  rw [zFAR, zI_le (by unfold zB FAR at *; omega) (by unfold zB FAR; omega)]
  unfold FAR at *
  omega
theorem GI.rng {A : Nat → Nat → Bool} {c : Nat → Nat → Int} {src : Nat → Bool} {h g : Nat → Int} {f : Nat → Option Nat} (G : GI A c src h g f) (P : PO A c src h) {v : Nat} (hv : v < 28) : g v = FAR ∨ (-56 ≤ g v ∧ g v ≤ 54) := by
  by_cases e : g v = FAR
  · exact Or.inl e
  · exact Or.inr ⟨G.low hv e, G.hi P hv e⟩
theorem GnS.up {Y : Mem} {g : Nat → Int} {f : Nat → Option Nat} (h : GnS Y g f) {v u : Nat} {x : Int} (hv : v < 28) : GnS (sI (sI Y 102 v (zI x)) 103 v (nI u)) (upO g v x) (upO f v (some u)) := by
  refine ⟨fun y hy => ?_, fun y hy => ?_⟩
  · rw [sI_ne _ _ (by omega), gI_sI]
    by_cases e : y = v
    · rw [if_pos ⟨rfl, e⟩, e, upO_same]
    · rw [if_neg (by omega), upO_ne _ _ e]
      exact h.1 y hy
  · rw [gI_sI]
    by_cases e : y = v
    · rw [if_pos ⟨rfl, e⟩, e, upO_same]
      rfl
    · rw [if_neg (by omega), upO_ne _ _ e, sI_ne _ _ (by omega)]
      exact h.2 y hy
theorem m_reaches (N : Nat) {Y : Mem} {g : Nat → Int} {f : Nat → Option Nat} (h : GnS Y g f) {v u : Nat} {x : Int} (hv : v < 28) (hu : u < 28) (hg : g v = FAR ∨ (-56 ≤ g v ∧ g v ≤ 54)) (hx : -100 ≤ x ∧ x ≤ 100) :
    f_X10_reaches N (nI v) (zI x) (nI u) Y = if g v < x then some (1, sI (sI Y 102 v (zI x)) 103 v (nI u)) else some (0, Y) := by
  unfold f_X10_reaches
  rw [gd_t (inb_nI hv (by omega)), nI_clamp (by omega), h.1 v hv]
  have := zI_lt (a := g v) (b := x) (by unfold zB FAR at *; omega) (by unfold zB; omega)
  by_cases hl : g v < x
  · rw [if_pos (this.mpr hl), if_pos hl, wr_eq, wr_eq]
  · rw [if_neg (fun e => hl (this.mp e)), if_neg hl]
/-- all that is fixed while ways are looked for -/
def Srch (m : Mem) (pa : Int32) (F : Nat → Nat → Bool) (h : Nat → Int) : Prop := Feas (Em m pa) (capM m) (eaM m pa) F ∧ PO (arcA (Em m pa) F) (arcC (mat m)) (srcF (eaM m pa) F) h
abbrev GIm (m : Mem) (pa : Int32) (F : Nat → Nat → Bool) (h g : Nat → Int) (f : Nat → Option Nat) : Prop := GI (arcA (Em m pa) F) (arcC (mat m)) (srcF (eaM m pa) F) h g f
/-- both arcs of a pair are as they must be at the end -/
def okE (m : Mem) (pa : Int32) (F : Nat → Nat → Bool) (g : Nat → Int) (r p : Nat) : Prop := (arcA (Em m pa) F p (16 + r) = true → g p ≠ FAR → g p + mat m r p ≤ g (16 + r)) ∧ (arcA (Em m pa) F (16 + r) p = true → g (16 + r) ≠ FAR → g (16 + r) - mat m r p ≤ g p)
theorem arc_pr {m : Mem} {pa : Int32} {F : Nat → Nat → Bool} {r p : Nat} (hr : r < 12) (hp : p < 16) : arcA (Em m pa) F p (16 + r) = true ↔ Em m pa r p = true ∧ F r p = false := by
  rw [arcA_iff, show 16 + r - 16 = r by omega]
  constructor
  · rintro (⟨a1, a2, a3, a4, a5⟩ | ⟨a1, a2, a3, a4⟩)
    · exact ⟨a4, a5⟩
    · omega
  · rintro ⟨a, b⟩
    exact Or.inl ⟨hp, by omega, by omega, a, b⟩
theorem arc_rp {m : Mem} {pa : Int32} {F : Nat → Nat → Bool} {r p : Nat} (hr : r < 12) (hp : p < 16) : arcA (Em m pa) F (16 + r) p = true ↔ F r p = true := by
  rw [arcA_iff, show 16 + r - 16 = r by omega]
  constructor
  · rintro (⟨a1, a2, a3, a4, a5⟩ | ⟨a1, a2, a3, a4⟩)
    · omega
    · exact a4
  · intro a
    exact Or.inr ⟨hp, by omega, by omega, a⟩
theorem m_passIn {N : Nat} {m : Mem} {pa : Int32} {F : Nat → Nat → Bool} {h : Nat → Int} (S : Srch m pa F h) {p : Nat} (hp : p < nQ m) (hpp : gI m 96 (59 + 5 * p) = pa) : ∀ d n r (b : Bool) g f Y, r + d = nR m → d < n → Rel Y → SV m Y → TkS Y F → GnS Y g f → GIm m pa F h g f →
    ∃ b' g' f' Y', L_X10_reachesMore_17 N n pa (bI b) (nI p) (nI r) Y = some (pa, bI b', nI p, Y') ∧ ME Y Y' ∧ gI Y' 101 = gI Y 101 ∧ GnS Y' g' f' ∧ GIm m pa F h g' f' ∧ mu g ≤ mu g' ∧ (b' = false → b = false ∧ g' = g ∧ f' = f ∧ ∀ x, r ≤ x → x < nR m → okE m pa F g x p) ∧ (b' = true → b = true ∨ mu g < mu g') := by
  intro d
  induction d with
  | zero =>
    intro n r b g f Y hd hn hR hv ht hg hG
    have hRR := hR.b.R.2
    rw [hv.r] at hRR
    obtain ⟨n, rfl⟩ : ∃ k, n = k + 1 := ⟨n - 1, by omega⟩
    refine ⟨b, g, f, Y, ?_, ME.refl Y, rfl, hg, hG, Nat.le_refl _, fun hb => ⟨hb, rfl, rfl, fun x h1 h2 => by omega⟩, fun hb => Or.inl hb⟩
    show T_X10_reachesMore_17 N (L_X10_reachesMore_17 N n) _ _ _ _ _ = _
    unfold T_X10_reachesMore_17
    rw [hR.b.R.1, if_pos (nI_le (by rw [hv.r]; omega) (by omega))]
  | succ d ih =>
    intro n r b g f Y hd hn hR hv ht hg hG
    have hRR := hR.b.R.2
    have hQQ := hR.b.Q.2
    have hrm : r < nR m := by omega
    rw [hv.r] at hRR
    rw [hv.q] at hQQ
    obtain ⟨n, rfl⟩ : ∃ k, n = k + 1 := ⟨n - 1, by omega⟩
    have hr12 : r < 12 := by omega
    have hp16 : p < 16 := by omega
    have hp0 : f_X10_proposal N (nI p) 0 Y = some (pa, Y) := by
      have := m_proposal N hp16 (show 0 < 5 by omega) Y
      rw [show gI Y 96 (59 + 0 + 5 * p) = gI Y 96 (59 + 5 * p) from rfl, hv.1, hpp] at this
      exact this
    have hfit := m_fit N hR.b hr12 hp16
    rw [hv.fit] at hfit
    have hml := mat_le m r p
    have hP := S.2
    have goOn : ∀ (b1 : Bool) g1 f1 Y1, ME Y Y1 → gI Y1 101 = gI Y 101 → GnS Y1 g1 f1 → GIm m pa F h g1 f1 → mu g ≤ mu g1 → (b1 = false → b = false ∧ g1 = g ∧ f1 = f ∧ okE m pa F g r p) → (b1 = true → b = true ∨ mu g < mu g1) →
        ∃ b' g' f' Y', L_X10_reachesMore_17 N n pa (bI b1) (nI p) (nI (r + 1)) Y1 = some (pa, bI b', nI p, Y') ∧ ME Y Y' ∧ gI Y' 101 = gI Y 101 ∧ GnS Y' g' f' ∧ GIm m pa F h g' f' ∧ mu g ≤ mu g' ∧ (b' = false → b = false ∧ g' = g ∧ f' = f ∧ ∀ x, r ≤ x → x < nR m → okE m pa F g x p) ∧ (b' = true → b = true ∨ mu g < mu g') := by
      intro b1 g1 f1 Y1 q1 q2 q3 q4 q5 q6 q7
      have hR1 := hR.core q1.core
      have hv1 : SV m Y1 := ⟨q1.v.1.trans hv.1, q1.v.2.trans hv.2⟩
      have ht1 : TkS Y1 F := by unfold TkS; rw [q2]; exact ht
      obtain ⟨b', g', f', Y', a1, a2, a3, a4, a5, a6, a7, a8⟩ := ih n (r + 1) b1 g1 f1 Y1 (by omega) (by omega) hR1 hv1 ht1 q3 q4
      refine ⟨b', g', f', Y', a1, q1.trans a2, a3.trans q2, a4, a5, by omega, fun hb => ?_, fun hb => ?_⟩
      · obtain ⟨z1, z2, z3, z4⟩ := a7 hb
        obtain ⟨y1, y2, y3, y4⟩ := q6 z1
        refine ⟨y1, z2.trans y2, z3.trans y3, fun x h1 h2 => ?_⟩
        by_cases e : x = r
        · rw [e]
          exact y4
        · have := z4 x (by omega) h2
          rw [y2] at this
          exact this
      · rcases a8 hb with z | z
        · rcases q7 z with z | z
          · exact Or.inl z
          · exact Or.inr (by omega)
        · exact Or.inr (by omega)
    show ∃ b' g' f' Y', T_X10_reachesMore_17 N (L_X10_reachesMore_17 N n) _ _ _ _ _ = _ ∧ _
    unfold T_X10_reachesMore_17
    rw [hR.b.R.1, if_neg (nI_ge (by rw [hv.r]; omega) (by rw [hv.r]; omega)), b2_of hp0, if_pos rfl, b2_of hfit, nI_1]
    cases hf : fit m r p
    · rw [if_pos (by rfl)]
      refine goOn b g f Y (ME.refl Y) rfl hg hG (Nat.le_refl _) (fun hb => ⟨hb, rfl, rfl, ?_⟩) (fun hb => Or.inl hb)
      refine ⟨fun ha => ?_, fun ha => ?_⟩
      · have := (arc_pr hr12 hp16).mp ha
        rw [(Em_iff.mp this.1).2.2.2] at hf
        cases hf
      · have := S.1.1 r p hr12 hp16 ((arc_rp hr12 hp16).mp ha)
        rw [(Em_iff.mp this).2.2.2] at hf
        cases hf
    · have hE : Em m pa r p = true := Em_iff.mpr ⟨hrm, hp, hpp, hf⟩
      obtain ⟨k, k1, k2, k3⟩ := ht r hr12
      have hhas : f_X10_has N (gI Y 101 r) (nI p) Y = some (if F r p then 1 else 0, Y) := by
        have := m_has N (k := k) (j := p) (by omega) Y
        rw [k3 p hp16] at this
        rw [k2]
        exact this
      have hmm := m_mat N hR.b (show r < nR Y by rw [hv.r]; exact hrm) (show p < nQ Y by rw [hv.q]; exact hp)
      rw [hv.mat] at hmm
      rw [if_neg (by decide), gd_t (inb_nI hr12 (by omega)), nI_clamp (by omega), b2_of hhas]
      cases hF : F r p
      · -- an arc from the proposal to the reviewer
        have ha : arcA (Em m pa) F p (16 + r) = true := (arc_pr hr12 hp16).mpr ⟨hE, hF⟩
        have rngp := hG.rng hP (show p < 28 by omega)
        have rngr := hG.rng hP (show 16 + r < 28 by omega)
        have nob : okE m pa F g r p ↔ (g p ≠ FAR → g p + mat m r p ≤ g (16 + r)) := by
          unfold okE
          refine ⟨fun hh => hh.1 ha, fun hh => ⟨fun _ => hh, fun ha' => ?_⟩⟩
          rw [(arc_rp hr12 hp16).mp ha'] at hF
          cases hF
        unfold B_X10_reachesMore_160 B_X10_reachesMore_161
        rw [if_pos (by rfl), gd_t (inb_nI (by omega) (by omega)), nI_clamp (by omega), hg.1 p (by omega), nI_1]
        have hfar := far_le rngp
        by_cases hz : g p = FAR
        · rw [if_pos (hfar.mpr hz), (bI_or b).2]
          exact goOn b g f Y (ME.refl Y) rfl hg hG (Nat.le_refl _) (fun hb => ⟨hb, rfl, rfl, nob.mpr (fun e => absurd hz e)⟩) (fun hb => Or.inl hb)
        · have rp := rngp.resolve_left hz
          rw [if_neg (fun e => hz (hfar.mp e)), b2_of hmm, show (16 : Int32) + nI r = nI (16 + r) from nI_add 16 r, ← zI_nI (mat m r p), zI_add]
          have hre := m_reaches N hg (v := 16 + r) (u := p) (x := g p + mat m r p) (by omega) (by omega) rngr (by omega)
          by_cases hl : g (16 + r) < g p + mat m r p
          · rw [if_pos hl] at hre
            rw [b2_of hre, if_neg (by decide), (bI_or b).1]
            have hl' : g (16 + r) < g p + arcC (mat m) p (16 + r) := by rw [arcC_pr]; exact hl
            have hG' := hG.relax hP (u := p) (v := 16 + r) (by omega) (by omega) ha hz hl'
            have hmu := mu_up hG hP (u := p) (v := 16 + r) (by omega) (by omega) ha hz hl'
            rw [arcC_pr] at hG' hmu
            exact goOn true _ _ _ ((ME.s _ (by omega)).trans (ME.s _ (by omega))) (by rw [sI_ne _ _ (by omega), sI_ne _ _ (by omega)]) (hg.up (by omega)) hG' (by omega) (fun hb => by cases hb) (fun _ => Or.inr hmu)
          · rw [if_neg hl] at hre
            rw [b2_of hre, if_pos rfl, (bI_or b).2]
            exact goOn b g f Y (ME.refl Y) rfl hg hG (Nat.le_refl _) (fun hb => ⟨hb, rfl, rfl, nob.mpr (fun _ => by omega)⟩) (fun hb => Or.inl hb)
      · -- an arc from the reviewer to the proposal
        have ha : arcA (Em m pa) F (16 + r) p = true := (arc_rp hr12 hp16).mpr hF
        have rngp := hG.rng hP (show p < 28 by omega)
        have rngr := hG.rng hP (show 16 + r < 28 by omega)
        have nob : okE m pa F g r p ↔ (g (16 + r) ≠ FAR → g (16 + r) - mat m r p ≤ g p) := by
          unfold okE
          refine ⟨fun hh => hh.2 ha, fun hh => ⟨fun ha' => ?_, fun _ => hh⟩⟩
          rw [((arc_pr hr12 hp16).mp ha').2] at hF
          cases hF
        unfold B_X10_reachesMore_114 B_X10_reachesMore_115
        rw [if_neg (by decide), show (16 : Int32) + nI r = nI (16 + r) from nI_add 16 r, gd_t (inb_nI (by omega) (by omega)), nI_clamp (by omega), hg.1 (16 + r) (by omega), nI_1]
        have hfar := far_le rngr
        by_cases hz : g (16 + r) = FAR
        · rw [if_pos (hfar.mpr hz), (bI_or b).2]
          exact goOn b g f Y (ME.refl Y) rfl hg hG (Nat.le_refl _) (fun hb => ⟨hb, rfl, rfl, nob.mpr (fun e => absurd hz e)⟩) (fun hb => Or.inl hb)
        · have rr := rngr.resolve_left hz
          rw [if_neg (fun e => hz (hfar.mp e)), b2_of hmm, ← zI_nI (mat m r p), zI_sub]
          have hre := m_reaches N hg (v := p) (u := 16 + r) (x := g (16 + r) - mat m r p) (by omega) (by omega) rngp (by omega)
          by_cases hl : g p < g (16 + r) - mat m r p
          · rw [if_pos hl] at hre
            rw [b2_of hre, if_neg (by decide), (bI_or b).1]
            have ec : g (16 + r) + arcC (mat m) (16 + r) p = g (16 + r) - mat m r p := by rw [arcC_rp _ _ hp16]; omega
            have hl' : g p < g (16 + r) + arcC (mat m) (16 + r) p := by rw [ec]; exact hl
            have hG' := hG.relax hP (u := 16 + r) (v := p) (by omega) (by omega) ha hz hl'
            have hmu := mu_up hG hP (u := 16 + r) (v := p) (by omega) (by omega) ha hz hl'
            rw [ec] at hG' hmu
            exact goOn true _ _ _ ((ME.s _ (by omega)).trans (ME.s _ (by omega))) (by rw [sI_ne _ _ (by omega), sI_ne _ _ (by omega)]) (hg.up (by omega)) hG' (by omega) (fun hb => by cases hb) (fun _ => Or.inr hmu)
          · rw [if_neg hl] at hre
            rw [b2_of hre, if_pos rfl, (bI_or b).2]
            exact goOn b g f Y (ME.refl Y) rfl hg hG (Nat.le_refl _) (fun hb => ⟨hb, rfl, rfl, nob.mpr (fun _ => by omega)⟩) (fun hb => Or.inl hb)
theorem m_passOut {N : Nat} (hN : 17 < N) {m : Mem} {pa : Int32} {F : Nat → Nat → Bool} {h : Nat → Int} (S : Srch m pa F h) : ∀ d n p (b : Bool) g f Y, p + d = nQ m → d < n → Rel Y → SV m Y → TkS Y F → GnS Y g f → GIm m pa F h g f →
    ∃ b' g' f' Y', L_X10_reachesMore_4 N n pa (bI b) (nI p) Y = some (bI b', Y') ∧ ME Y Y' ∧ gI Y' 101 = gI Y 101 ∧ GnS Y' g' f' ∧ GIm m pa F h g' f' ∧ mu g ≤ mu g' ∧ (b' = false → b = false ∧ g' = g ∧ f' = f ∧ ∀ y, p ≤ y → y < nQ m → gI m 96 (59 + 5 * y) = pa → ∀ x, x < nR m → okE m pa F g x y) ∧ (b' = true → b = true ∨ mu g < mu g') := by
  intro d
  induction d with
  | zero =>
    intro n p b g f Y hd hn hR hv ht hg hG
    have hQQ := hR.b.Q.2
    rw [hv.q] at hQQ
    obtain ⟨n, rfl⟩ : ∃ k, n = k + 1 := ⟨n - 1, by omega⟩
    refine ⟨b, g, f, Y, ?_, ME.refl Y, rfl, hg, hG, Nat.le_refl _, fun hb => ⟨hb, rfl, rfl, fun x h1 h2 => by omega⟩, fun hb => Or.inl hb⟩
    show T_X10_reachesMore_4 N (L_X10_reachesMore_4 N n) _ _ _ _ = _
    unfold T_X10_reachesMore_4
    rw [hR.b.Q.1, if_pos (nI_le (by rw [hv.q]; omega) (by omega))]
  | succ d ih =>
    intro n p b g f Y hd hn hR hv ht hg hG
    have hQQ := hR.b.Q.2
    have hRR := hR.b.R.2
    rw [hv.q] at hQQ
    rw [hv.r] at hRR
    obtain ⟨n, rfl⟩ : ∃ k, n = k + 1 := ⟨n - 1, by omega⟩
    have hpm : p < nQ m := by omega
    have inner : ∃ b1 g1 f1 Y1, L_X10_reachesMore_17 N N pa (bI b) (nI p) (nI 0) Y = some (pa, bI b1, nI p, Y1) ∧ ME Y Y1 ∧ gI Y1 101 = gI Y 101 ∧ GnS Y1 g1 f1 ∧ GIm m pa F h g1 f1 ∧ mu g ≤ mu g1 ∧ (b1 = false → b = false ∧ g1 = g ∧ f1 = f ∧ (gI m 96 (59 + 5 * p) = pa → ∀ x, x < nR m → okE m pa F g x p)) ∧ (b1 = true → b = true ∨ mu g < mu g1) := by
      by_cases hpp : gI m 96 (59 + 5 * p) = pa
      · obtain ⟨b1, g1, f1, Y1, a1, a2, a3, a4, a5, a6, a7, a8⟩ := m_passIn (N := N) S hpm hpp (nR m) N 0 b g f Y (by omega) (by omega) hR hv ht hg hG
        refine ⟨b1, g1, f1, Y1, a1, a2, a3, a4, a5, a6, fun hb => ?_, a8⟩
        obtain ⟨z1, z2, z3, z4⟩ := a7 hb
        exact ⟨z1, z2, z3, fun _ x hx => z4 x (by omega) hx⟩
      · refine ⟨b, g, f, Y, ?_, ME.refl Y, rfl, hg, hG, Nat.le_refl _, fun hb => ⟨hb, rfl, rfl, fun e => absurd e hpp⟩, fun hb => Or.inl hb⟩
        obtain ⟨k, hk⟩ : ∃ k, N = k + 1 := ⟨N - 1, by omega⟩
        have : L_X10_reachesMore_17 N N = T_X10_reachesMore_17 N (L_X10_reachesMore_17 N k) := by
          rw [show L_X10_reachesMore_17 N N = L_X10_reachesMore_17 N (k + 1) from congrArg (L_X10_reachesMore_17 N) hk]
          rfl
        have hp0 : f_X10_proposal N (nI p) 0 Y = some (gI m 96 (59 + 5 * p), Y) := by
          have := m_proposal N (show p < 16 by omega) (show 0 < 5 by omega) Y
          rw [show gI Y 96 (59 + 0 + 5 * p) = gI Y 96 (59 + 5 * p) from rfl, hv.1] at this
          exact this
        rw [this]
        unfold T_X10_reachesMore_17
        by_cases h0 : nR m = 0
        · rw [hR.b.R.1, if_pos (nI_le (by rw [hv.r]; omega) (by omega))]
        · rw [hR.b.R.1, if_neg (nI_ge (by rw [hv.r]; omega) (by rw [hv.r]; omega)), b2_of hp0, if_neg hpp]
    obtain ⟨b1, g1, f1, Y1, q1, q2, q3, q4, q5, q6, q7, q8⟩ := inner
    have hR1 := hR.core q2.core
    have hv1 : SV m Y1 := ⟨q2.v.1.trans hv.1, q2.v.2.trans hv.2⟩
    have ht1 : TkS Y1 F := by unfold TkS; rw [q3]; exact ht
    obtain ⟨b', g', f', Y', a1, a2, a3, a4, a5, a6, a7, a8⟩ := ih n (p + 1) b1 g1 f1 Y1 (by omega) (by omega) hR1 hv1 ht1 q4 q5
    refine ⟨b', g', f', Y', ?_, q2.trans a2, a3.trans q3, a4, a5, by omega, fun hb => ?_, fun hb => ?_⟩
    · show T_X10_reachesMore_4 N (L_X10_reachesMore_4 N n) _ _ _ _ = _
      unfold T_X10_reachesMore_4
      rw [hR.b.Q.1, if_neg (nI_ge (by rw [hv.q]; omega) (by rw [hv.q]; omega)), l4_of (show L_X10_reachesMore_17 N N pa (bI b) (nI p) 0 Y = _ from q1), nI_1]
      exact a1
    · obtain ⟨z1, z2, z3, z4⟩ := a7 hb
      obtain ⟨y1, y2, y3, y4⟩ := q7 z1
      refine ⟨y1, z2.trans y2, z3.trans y3, fun y h1 h2 h3 x hx => ?_⟩
      by_cases e : y = p
      · rw [e] at h3 ⊢
        exact y4 h3 x hx
      · have := z4 y (by omega) h2 h3 x hx
        rw [y2] at this
        exact this
    · rcases a8 hb with z | z
      · rcases q8 z with z | z
        · exact Or.inl z
        · exact Or.inr (by omega)
      · exact Or.inr (by omega)
theorem okE_fx {m : Mem} {pa : Int32} {F : Nat → Nat → Bool} {h g : Nat → Int} (S : Srch m pa F h) (hok : ∀ y, y < nQ m → gI m 96 (59 + 5 * y) = pa → ∀ x, x < nR m → okE m pa F g x y) : FX (arcA (Em m pa) F) (arcC (mat m)) g := by
  intro u v hu hv ha hr
  rcases arcA_iff.mp ha with ⟨a1, a2, a3, a4, a5⟩ | ⟨a1, a2, a3, a4⟩
  · obtain ⟨r, rfl⟩ : ∃ r, v = 16 + r := ⟨v - 16, by omega⟩
    rw [show 16 + r - 16 = r by omega] at a4
    obtain ⟨e1, e2, e3, e4⟩ := Em_iff.mp a4
    have := (hok u e2 e3 r e1).1 ha hr
    rw [arcC_pr]
    exact this
  · obtain ⟨r, rfl⟩ : ∃ r, u = 16 + r := ⟨u - 16, by omega⟩
    rw [show 16 + r - 16 = r by omega] at a4
    obtain ⟨e1, e2, e3, e4⟩ := Em_iff.mp (S.1.1 r v (by omega) a1 a4)
    have := (hok v e2 e3 r e1).2 ha hr
    rw [arcC_rp _ _ a1]
    omega
theorem m_fix {N : Nat} (hN : 17 < N) {m : Mem} {pa : Int32} {F : Nat → Nat → Bool} {h : Nat → Int} (S : Srch m pa F h) (hQ : nQ m ≤ 16) : ∀ n g f Y, 3201 - mu g < n → Rel Y → SV m Y → TkS Y F → GnS Y g f → GIm m pa F h g f →
    ∃ g' f' Y', L_X10_goesOn_85 N (n + 1) pa 1 Y = some Y' ∧ ME Y Y' ∧ gI Y' 101 = gI Y 101 ∧ GnS Y' g' f' ∧ GIm m pa F h g' f' ∧ FX (arcA (Em m pa) F) (arcC (mat m)) g' := by
  intro n
  induction n with
  | zero => intro g f Y hn; omega
  | succ n ih =>
    intro g f Y hn hR hv ht hg hG
    obtain ⟨b1, g1, f1, Y1, a1, a2, a3, a4, a5, a6, a7, a8⟩ := m_passOut hN S (nQ m) N 0 false g f Y (by omega) (by omega) hR hv ht hg hG
    have hR1 := hR.core a2.core
    have hv1 : SV m Y1 := ⟨a2.v.1.trans hv.1, a2.v.2.trans hv.2⟩
    have ht1 : TkS Y1 F := by unfold TkS; rw [a3]; exact ht
    have hrm : f_X10_reachesMore N pa Y = some (bI b1, Y1) := by
      unfold f_X10_reachesMore
      rw [l2_of (show L_X10_reachesMore_4 N N pa 0 0 Y = _ from a1), gd_t (by cases b1 <;> rfl)]
    show ∃ g' f' Y', T_X10_goesOn_85 N (L_X10_goesOn_85 N (n + 1)) pa 1 Y = some Y' ∧ _
    unfold T_X10_goesOn_85
    rw [if_neg (by decide), b2_of hrm]
    cases b1
    · obtain ⟨z1, z2, z3, z4⟩ := a7 rfl
      refine ⟨g1, f1, Y1, ?_, a2, a3, a4, a5, okE_fx S (fun y hy hp x hx => by rw [z2]; exact z4 y (by omega) hy hp x hx)⟩
      show T_X10_goesOn_85 N (L_X10_goesOn_85 N n) pa 0 Y1 = _
      unfold T_X10_goesOn_85
      rw [if_pos rfl]
    · have hmu := (a8 rfl).resolve_left (by decide)
      have hmu2 := mu_le a5 S.2
      obtain ⟨g', f', Y', c1, c2, c3, c4, c5, c6⟩ := ih g1 f1 Y1 (by omega) hR1 hv1 ht1 a4 a5
      exact ⟨g', f', Y', c1, a2.trans c2, c3.trans a3, c4, c5, c6⟩
theorem pick_max {ok : Nat → Bool} {gn : Nat → Int} : ∀ d i s b, (∀ k, s = some k → k < i ∧ ok k = true) → pick ok (fun r b => decide (gn b < gn r)) d i s = b → (b = none → s = none ∧ ∀ r, i ≤ r → r < i + d → ok r = false) ∧ (∀ k, b = some k → (∀ j, s = some j → gn j ≤ gn k) ∧ ∀ r, i ≤ r → r < i + d → ok r = true → gn r ≤ gn k) := by
  intro d
  induction d with
  | zero =>
    intro i s b hs hb
    have hb : s = b := hb
    refine ⟨fun e => ⟨hb.trans e, fun r h1 h2 => by omega⟩, fun k e => ⟨fun j hj => ?_, fun r h1 h2 => by omega⟩⟩
    rw [hb, e] at hj
    cases hj
    exact Int.le_refl _
  | succ d ih =>
    intro i s b hs hb
    rw [pick_s] at hb
    cases hk : ok i
    · rw [hk] at hb
      obtain ⟨q1, q2⟩ := ih (i + 1) s b (fun k hk => ⟨by have := (hs k hk).1; omega, (hs k hk).2⟩) hb
      refine ⟨fun e => ⟨(q1 e).1, fun r h1 h2 => ?_⟩, fun k e => ⟨(q2 k e).1, fun r h1 h2 hr => ?_⟩⟩
      · by_cases er : r = i
        · rw [er]
          exact hk
        · exact (q1 e).2 r (by omega) (by omega)
      · by_cases er : r = i
        · rw [er, hk] at hr
          cases hr
        · exact (q2 k e).2 r (by omega) (by omega) hr
    · rw [hk] at hb
      have hi : ∀ k, some i = some k → k < i + 1 ∧ ok k = true := fun k hk' => by
        cases hk'
        exact ⟨by omega, hk⟩
      cases s with
      | none =>
        obtain ⟨q1, q2⟩ := ih (i + 1) (some i) b hi hb
        refine ⟨fun e => (by cases (q1 e).1), fun k e => ⟨fun j hj => (by cases hj), fun r h1 h2 hr => ?_⟩⟩
        by_cases er : r = i
        · rw [er]
          exact (q2 k e).1 i rfl
        · exact (q2 k e).2 r (by omega) (by omega) hr
      | some c =>
        simp only [if_true] at hb
        by_cases hl : gn c < gn i
        · rw [if_pos (decide_eq_true hl)] at hb
          obtain ⟨q1, q2⟩ := ih (i + 1) (some i) b hi hb
          refine ⟨fun e => (by cases (q1 e).1), fun k e => ⟨fun j hj => ?_, fun r h1 h2 hr => ?_⟩⟩
          · cases hj
            have := (q2 k e).1 i rfl
            omega
          · by_cases er : r = i
            · rw [er]
              exact (q2 k e).1 i rfl
            · exact (q2 k e).2 r (by omega) (by omega) hr
        · rw [if_neg (fun e => hl (of_decide_eq_true e))] at hb
          obtain ⟨q1, q2⟩ := ih (i + 1) (some c) b (fun k hk' => ⟨by have := (hs k hk').1; omega, (hs k hk').2⟩) hb
          refine ⟨fun e => (by cases (q1 e).1), fun k e => ⟨fun j hj => (q2 k e).1 j hj, fun r h1 h2 hr => ?_⟩⟩
          by_cases er : r = i
          · have := (q2 k e).1 c rfl
            rw [er]
            omega
          · exact (q2 k e).2 r (by omega) (by omega) hr
theorem m_best {N : Nat} (hN : 16 < N) {m : Mem} {pa : Int32} {F : Nat → Nat → Bool} {h g : Nat → Int} {f : Nat → Option Nat} (S : Srch m pa F h) {Y : Mem} (hR : Rel Y) (hv : SV m Y) (ht : TkS Y F) (hg : GnS Y g f) (hG : GIm m pa F h g f) : ∀ d n r s, r + d = nR m → d < n → (∀ k, s = some k → k < r) →
    L_X10_goesOn_103 N n (oI s) (nI r) Y = some (oI (pick (fun r => decide (g (16 + r) ≠ FAR) && decide (dR F r < capM m r)) (fun r b => decide (g (16 + b) < g (16 + r))) d r s), Y) := by
  have hRR := hR.b.R.2
  rw [hv.r] at hRR
  intro d
  induction d with
  | zero =>
    intro n r s hd hn hs
    obtain ⟨n, rfl⟩ : ∃ k, n = k + 1 := ⟨n - 1, by omega⟩
    show T_X10_goesOn_103 N (L_X10_goesOn_103 N n) _ _ _ = _
    unfold T_X10_goesOn_103
    rw [hR.b.R.1, if_pos (nI_le (by rw [hv.r]; omega) (by omega))]
    rfl
  | succ d ih =>
    intro n r s hd hn hs
    obtain ⟨n, rfl⟩ : ∃ k, n = k + 1 := ⟨n - 1, by omega⟩
    have hr12 : r < 12 := by omega
    have ihs := ih n (r + 1) s (by omega) (by omega) (fun k hk => by have := hs k hk; omega)
    have ihr := ih n (r + 1) (some r) (by omega) (by omega) (fun k hk => by cases hk; omega)
    have rngr := hG.rng S.2 (show 16 + r < 28 by omega)
    obtain ⟨k, k1, k2, k3⟩ := ht r hr12
    have hbits : f_X10_bits N (gI Y 101 r) Y = some (nI (dR F r), Y) := by
      rw [k2, m_bits hN k1, show cnt k.testBit 16 = dR F r from cnt_congr 16 (fun p hp => k3 p hp)]
    obtain ⟨q1, q2⟩ := hR.b.cap (show r < nR Y by rw [hv.r]; omega)
    have hcap : f_X10_reviewer N (nI r) 2 Y = some (nI (capM m r), Y) := by
      have := m_reviewer N hr12 (show 2 < 4 by omega) Y
      rw [show gI Y 96 (11 + 2 + 4 * r) = gI Y 96 (13 + 4 * r) from rfl, q1, hv.1] at this
      unfold capM
      rw [if_pos (show r < nR m by omega)]
      exact this
    have hcb : capM m r ≤ 10 := by
      unfold capM
      rw [if_pos (show r < nR m by omega), ← hv.1]
      exact q2
    have hdr : dR F r ≤ 16 := cnt_le _ 16
    rw [pick_s]
    show T_X10_goesOn_103 N (L_X10_goesOn_103 N n) _ _ _ = _
    unfold T_X10_goesOn_103 B_X10_goesOn_153 B_X10_goesOn_154 B_X10_goesOn_193 B_X10_goesOn_188
    rw [hR.b.R.1, if_neg (nI_ge (by rw [hv.r]; omega) (by rw [hv.r]; omega)), show (16 : Int32) + nI r = nI (16 + r) from nI_add 16 r, gd_t (inb_nI (by omega) (by omega)), nI_clamp (by omega), hg.1 (16 + r) (by omega), nI_1]
    have hfar := far_le rngr
    by_cases hz : g (16 + r) = FAR
    · rw [if_pos (hfar.mpr hz), if_pos rfl, decide_eq_false (show ¬ g (16 + r) ≠ FAR from fun e => e hz), Bool.false_and, if_neg (by decide)]
      exact ihs
    · have rr := rngr.resolve_left hz
      rw [if_neg (fun e => hz (hfar.mp e)), gd_t (inb_nI hr12 (by omega)), nI_clamp (by omega), b2_of hbits, b2_of hcap, decide_eq_true hz, Bool.true_and]
      by_cases hl : dR F r < capM m r
      · rw [if_neg (nI_ge hl (by omega)), if_neg (by decide), if_pos (decide_eq_true hl)]
        cases s with
        | none =>
          rw [if_pos (show oI none = -1 from rfl)]
          exact ihr
        | some b =>
          have hb := hs b rfl
          have rngb := hG.rng S.2 (show 16 + b < 28 by omega)
          rw [if_neg (fun e => by cases (oI_none (s := some b) (fun k hk => by cases hk; omega)).mp e), show oI (some b) = nI b from rfl, gd_t (inb_nI (by omega) (by omega)), show (16 : Int32) + nI b = nI (16 + b) from nI_add 16 b, gd_t (inb_nI (by omega) (by omega)), nI_clamp (by omega), hg.1 (16 + b) (by omega), hg.1 (16 + r) (by omega)]
          have hle := zI_le (a := g (16 + r)) (b := g (16 + b)) (by unfold zB FAR at *; omega) (by unfold zB FAR at *; omega)
          by_cases hc : g (16 + b) < g (16 + r)
          · rw [if_neg (fun e => by have := hle.mp e; omega)]
            simp only [decide_eq_true hc, if_true]
            exact ihr
          · rw [if_pos (hle.mpr (by omega))]
            simp only [decide_eq_false hc]
            exact ihs
      · rw [if_pos (nI_le (by omega) (by omega)), if_pos rfl, if_neg (fun e => hl (of_decide_eq_true e))]
        exact ihs
theorem m_init1 {N : Nat} (pa : Int32) : ∀ d n i Y, i + d = 28 → d < n → ∃ Y', L_X10_goesOn_2 N n pa (nI i) Y = some (pa, Y') ∧ ME Y Y' ∧ gI Y' 101 = gI Y 101 ∧ (∀ j, j < 28 → i ≤ j → gI Y' 102 j = zI FAR ∧ gI Y' 103 j = -1) ∧ (∀ j, j < i → gI Y' 102 j = gI Y 102 j ∧ gI Y' 103 j = gI Y 103 j) := by
  intro d
  induction d with
  | zero =>
    intro n i Y hi hn
    obtain ⟨n, rfl⟩ : ∃ k, n = k + 1 := ⟨n - 1, by omega⟩
    obtain rfl : i = 28 := by omega
    refine ⟨Y, ?_, ME.refl Y, rfl, fun j h1 h2 => by omega, fun j _ => ⟨rfl, rfl⟩⟩
    show T_X10_goesOn_2 N (L_X10_goesOn_2 N n) _ _ _ = _
    unfold T_X10_goesOn_2
    rw [if_pos (by decide)]
  | succ d ih =>
    intro n i Y hi hn
    obtain ⟨n, rfl⟩ : ∃ k, n = k + 1 := ⟨n - 1, by omega⟩
    obtain ⟨Y', a1, a2, a3, a4, a5⟩ := ih n (i + 1) (sI (sI Y 102 i (-1000000)) 103 i (-1)) (by omega) (by omega)
    refine ⟨Y', ?_, ((ME.s _ (by omega)).trans (ME.s _ (by omega))).trans a2, by rw [a3, sI_ne _ _ (by omega), sI_ne _ _ (by omega)], fun j h1 h2 => ?_, fun j h1 => ?_⟩
    · show T_X10_goesOn_2 N (L_X10_goesOn_2 N n) _ _ _ = _
      unfold T_X10_goesOn_2
      rw [if_neg (show ¬ (28 : Int32) ≤ nI i from nI_ge (b := 28) (by omega) (by omega)), gd_t (inb_nI (by omega) (by omega)), nI_clamp (by omega), wr_eq, wr_eq, nI_1]
      exact a1
    · by_cases e : j = i
      · rw [e, (a5 i (by omega)).1, (a5 i (by omega)).2, sI_ne _ _ (by omega), gI_sI, if_pos ⟨rfl, rfl⟩, gI_sI, if_pos ⟨rfl, rfl⟩]
        exact ⟨rfl, rfl⟩
      · exact a4 j h1 (by omega)
    · rw [(a5 j (by omega)).1, (a5 j (by omega)).2, sI_ne _ _ (by omega), gI_sI, if_neg (by omega), gI_sI, if_neg (by omega), sI_ne _ _ (by omega)]
      exact ⟨rfl, rfl⟩
theorem m_takenOf {N : Nat} (hN : 12 < N) {m : Mem} {pa : Int32} {F : Nat → Nat → Bool} (hF : Feas (Em m pa) (capM m) (eaM m pa) F) {Y : Mem} (hR : Rel Y) (hv : SV m Y) (ht : TkS Y F) {p : Nat} (hp : p < 16) : f_X10_takenOf N (nI p) Y = some (nI (dP F p), Y) := by
  have hRR := hR.b.R.2
  rw [hv.r] at hRR
  have e : dP F p = cnt (fun r => F r p) (nR m) := by
    unfold dP
    obtain ⟨d, hd⟩ : ∃ d, 12 = nR m + d := ⟨12 - nR m, by omega⟩
    rw [hd]
    refine cnt_more d (fun i h1 h2 => ?_)
    cases hf : F i p
    · rfl
    · have := (Em_iff.mp (hF.1 i p (by omega) hp hf)).1
      omega
  rw [e]
  unfold f_X10_takenOf
  refine (l2_of (y := nI (cnt (fun r => F r p) (nR m))) (m := Y) ?_).trans rfl
  refine loop_fn (fun n i => L_X10_takenOf_4 N n (nI p) (nI (cnt (fun r => F r p) i)) (nI i) Y) (nR m) _ (fun n i hi => ?_) (fun n => ?_) (nR m) N 0 (by omega) (by omega)
  · show T_X10_takenOf_4 N (L_X10_takenOf_4 N n) _ _ _ _ = L_X10_takenOf_4 N n _ _ _ _
    obtain ⟨k, k1, k2, k3⟩ := ht i (by omega)
    have hh := m_has N (k := k) (j := p) (by omega) Y
    rw [k3 p hp] at hh
    unfold T_X10_takenOf_4
    rw [hR.b.R.1, if_neg (nI_ge (by rw [hv.r]; exact hi) (by rw [hv.r]; omega)), gd_t (inb_nI (by omega) (by omega)), nI_clamp (by omega), k2, b2_of hh, nI_1, nI_1, show nI (cnt (fun r => F r p) i) + (0 : Int32) = nI (cnt (fun r => F r p) i) from nI_add _ 0]
    rw [cnt_s]
    cases F i p <;> rfl
  · show T_X10_takenOf_4 N (L_X10_takenOf_4 N n) _ _ _ _ = _
    unfold T_X10_takenOf_4
    rw [hR.b.R.1, if_pos (nI_le (by rw [hv.r]; omega) (by omega))]
theorem m_init2 {N : Nat} (hN : 17 < N) {m : Mem} {pa : Int32} {F : Nat → Nat → Bool} (hF : Feas (Em m pa) (capM m) (eaM m pa) F) : ∀ d n p Y, p + d = nQ m → d < n → Rel Y → SV m Y → TkS Y F → ∃ Y', L_X10_goesOn_31 N n pa (nI p) Y = some (pa, Y') ∧ ME Y Y' ∧ gI Y' 101 = gI Y 101 ∧ gI Y' 103 = gI Y 103 ∧ (∀ j, j < 28 → gI Y' 102 j = if p ≤ j ∧ j < nQ m then zI (if srcF (eaM m pa) F j then 0 else FAR) else gI Y 102 j) := by
  intro d
  induction d with
  | zero =>
    intro n p Y hd hn hR hv ht
    have hQQ := hR.b.Q.2
    rw [hv.q] at hQQ
    obtain ⟨n, rfl⟩ : ∃ k, n = k + 1 := ⟨n - 1, by omega⟩
    refine ⟨Y, ?_, ME.refl Y, rfl, rfl, fun j _ => by rw [if_neg (by omega)]⟩
    show T_X10_goesOn_31 N (L_X10_goesOn_31 N n) _ _ _ = _
    unfold T_X10_goesOn_31
    rw [hR.b.Q.1, if_pos (nI_le (by rw [hv.q]; omega) (by omega))]
  | succ d ih =>
    intro n p Y hd hn hR hv ht
    have hQQ := hR.b.Q.2
    rw [hv.q] at hQQ
    obtain ⟨n, rfl⟩ : ∃ k, n = k + 1 := ⟨n - 1, by omega⟩
    have hp0 : f_X10_proposal N (nI p) 0 Y = some (gI m 96 (59 + 5 * p), Y) := by
      have := m_proposal N (show p < 16 by omega) (show 0 < 5 by omega) Y
      rw [show gI Y 96 (59 + 0 + 5 * p) = gI Y 96 (59 + 5 * p) from rfl, hv.1] at this
      exact this
    obtain ⟨p1, p2, p3, p4⟩ := hR.b.per
    have hdp : dP F p ≤ 12 := cnt_le _ 12
    have h76 : ∀ x : Int, x = (if srcF (eaM m pa) F p then 0 else FAR) → ∃ Y', B_X10_goesOn_76 N (L_X10_goesOn_31 N n) pa (nI p) (zI x) (nI p) Y = some (pa, Y') ∧ ME Y Y' ∧ gI Y' 101 = gI Y 101 ∧ gI Y' 103 = gI Y 103 ∧ (∀ j, j < 28 → gI Y' 102 j = if p ≤ j ∧ j < nQ m then zI (if srcF (eaM m pa) F j then 0 else FAR) else gI Y 102 j) := by
      intro x hx
      have u : ME Y (sI Y 102 p (zI x)) := ME.s _ (by omega)
      obtain ⟨Y', a1, a2, a3, a4, a5⟩ := ih n (p + 1) (sI Y 102 p (zI x)) (by omega) (by omega) (hR.core u.core) ⟨u.v.1.trans hv.1, u.v.2.trans hv.2⟩ (by unfold TkS; rw [sI_ne _ _ (by omega)]; exact ht)
      refine ⟨Y', ?_, u.trans a2, by rw [a3, sI_ne _ _ (by omega)], by rw [a4, sI_ne _ _ (by omega)], fun j hj => ?_⟩
      · unfold B_X10_goesOn_76
        rw [gd_t (inb_nI (by omega) (by omega)), nI_clamp (by omega), wr_eq, nI_1]
        exact a1
      · rw [a5 j hj]
        by_cases e : j = p
        · rw [if_neg (by omega), if_pos (by omega), gI_sI, if_pos ⟨rfl, e⟩, hx, e]
        · by_cases e' : p + 1 ≤ j ∧ j < nQ m
          · rw [if_pos e', if_pos (show p ≤ j ∧ j < nQ m by omega)]
          · rw [if_neg e', if_neg (show ¬ (p ≤ j ∧ j < nQ m) by omega), gI_sI, if_neg (by omega)]
    show ∃ Y', T_X10_goesOn_31 N (L_X10_goesOn_31 N n) _ _ _ = _ ∧ _
    unfold T_X10_goesOn_31 B_X10_goesOn_74
    rw [hR.b.Q.1, if_neg (nI_ge (by rw [hv.q]; omega) (by rw [hv.q]; omega)), b2_of hp0]
    by_cases hpp : gI m 96 (59 + 5 * p) = pa
    · have hea : eaM m pa p = vN (gI m 96 3) := if_pos ⟨by omega, hpp⟩
      rw [if_pos hpp, b2_of (m_takenOf (by omega) hF hR hv ht (show p < 16 by omega)), p1, hv.1]
      rw [hv.1] at p2
      by_cases hl : dP F p < vN (gI m 96 3)
      · rw [if_neg (nI_ge hl (by omega))]
        exact h76 0 (by rw [if_pos (srcF_iff.mpr ⟨by omega, by rw [hea]; exact hl⟩)])
      · rw [if_pos (nI_le (by omega) (by omega))]
        exact h76 FAR (by rw [if_neg (fun e => hl (by have := (srcF_iff.mp e).2; rw [hea] at this; exact this))])
    · have hea : eaM m pa p = 0 := if_neg (fun e => hpp e.2)
      rw [if_neg hpp]
      exact h76 FAR (by rw [if_neg (fun e => by have := (srcF_iff.mp e).2; rw [hea] at this; omega)])
theorem GI.init {A : Nat → Nat → Bool} {c : Nat → Nat → Int} {src : Nat → Bool} {h : Nat → Int} (P : PO A c src h) : GI A c src h (fun v => if src v then 0 else FAR) (fun _ => none) := by
  have hr : ∀ v, (if src v then (0 : Int) else FAR) ≠ FAR → src v = true := fun v hv => by
    cases hs : src v
    · rw [hs] at hv
      exact absurd rfl hv
    · rfl
  refine ⟨fun v hv hs => ⟨if_pos hs, rfl⟩, fun v hv hs _ => if_neg (by rw [hs]; decide), fun v u hv hf => (by cases hf), fun v hv hg => ?_, fun v hv hg => ⟨0, rfl⟩, fun v hv hg => ?_⟩
  · show (if src v = true then 0 else FAR) ≤ h v
    rw [if_pos (hr v hg)]
    exact P.2.2.2 v hv (hr v hg)
  · show _ ≤ (if src v = true then 0 else FAR)
    rw [if_pos (hr v hg)]
    omega
/-- the model's search: its end -/
theorem m_goesOn {N : Nat} (hN : 4000 < N) {m : Mem} {pa : Int32} {F : Nat → Nat → Bool} {h : Nat → Int} (S : Srch m pa F h) {Y : Mem} (hR : Rel Y) (hv : SV m Y) (ht : TkS Y F) : ∃ g f Y' s, f_X10_goesOn N pa Y = some (oI s, Y') ∧ ME Y Y' ∧ gI Y' 101 = gI Y 101 ∧ GnS Y' g f ∧ GIm m pa F h g f ∧ FX (arcA (Em m pa) F) (arcC (mat m)) g ∧
    (s = none → ∀ r, r < 12 → dR F r < capM m r → g (16 + r) = FAR) ∧ (∀ b, s = some b → b < 12 ∧ dR F b < capM m b ∧ g (16 + b) ≠ FAR ∧ ∀ r, r < 12 → dR F r < capM m r → g (16 + r) ≠ FAR → g (16 + r) ≤ g (16 + b)) := by
  have hQQ := hR.b.Q.2
  have hRR := hR.b.R.2
  rw [hv.q] at hQQ
  rw [hv.r] at hRR
  obtain ⟨Y1, a1, a2, a3, a4, a5⟩ := m_init1 (N := N) pa 28 N 0 Y (by omega) (by omega)
  have hv1 : SV m Y1 := ⟨a2.v.1.trans hv.1, a2.v.2.trans hv.2⟩
  obtain ⟨Y2, b1, b2, b3, b4, b5⟩ := m_init2 (N := N) (by omega) S.1 (nQ m) N 0 Y1 (by omega) (by omega) (hR.core a2.core) hv1 (by unfold TkS; rw [a3]; exact ht)
  have u2 := a2.trans b2
  have hv2 : SV m Y2 := ⟨u2.v.1.trans hv.1, u2.v.2.trans hv.2⟩
  have hg2 : GnS Y2 (fun v => if srcF (eaM m pa) F v then 0 else FAR) (fun _ => none) := by
    refine ⟨fun v hv' => ?_, fun v hv' => by rw [b4]; exact (a4 v hv' (by omega)).2⟩
    rw [b5 v hv']
    by_cases e : 0 ≤ v ∧ v < nQ m
    · rw [if_pos e]
    · rw [if_neg e, (a4 v hv' (by omega)).1]
      show zI FAR = zI (if srcF (eaM m pa) F v = true then 0 else FAR)
      rw [if_neg]
      intro hs
      obtain ⟨s1, s2⟩ := srcF_iff.mp hs
      unfold eaM at s2
      rw [if_neg (fun q => e ⟨by omega, q.1⟩)] at s2
      omega
  obtain ⟨n, hn⟩ : ∃ n, N = n + 1 := ⟨N - 1, by omega⟩
  obtain ⟨g, f, Y3, c1, c2, c3, c4, c5, c6⟩ := m_fix (N := N) (by omega) S hQQ n _ _ Y2 (by omega) (hR.core u2.core) hv2 (by unfold TkS; rw [b3, a3]; exact ht) hg2 (GI.init S.2)
  rw [← hn] at c1
  have u3 := u2.trans c2
  have hv3 : SV m Y3 := ⟨u3.v.1.trans hv.1, u3.v.2.trans hv.2⟩
  have hb := m_best (N := N) (by omega) S (hR.core u3.core) hv3 (by unfold TkS; rw [c3, b3, a3]; exact ht) c4 c5 (nR m) N 0 none (by omega) (by omega) (fun k hk => by cases hk)
  generalize hs : pick (fun r => decide (g (16 + r) ≠ FAR) && decide (dR F r < capM m r)) (fun r b => decide (g (16 + b) < g (16 + r))) (nR m) 0 none = s at hb
  obtain ⟨q1, q2⟩ := pick_max (gn := fun r => g (16 + r)) (nR m) 0 none s (fun k hk => by cases hk) hs
  have hcap : ∀ r, dR F r < capM m r → r < nR m := fun r hl => by
    unfold capM at hl
    by_cases e : r < nR m
    · exact e
    · rw [if_neg e] at hl
      omega
  refine ⟨g, f, Y3, s, ?_, u3, by rw [c3, b3, a3], c4, c5, c6, fun e r hr hl => ?_, fun b e => ?_⟩
  · unfold f_X10_goesOn
    rw [l2_of (show L_X10_goesOn_2 N N pa 0 Y = _ from a1), l2_of (show L_X10_goesOn_31 N N pa 0 Y1 = _ from b1), l1_of c1, l2_of (show L_X10_goesOn_103 N N (-1) 0 Y3 = _ from hb)]
  · have := (q1 e).2 r (by omega) (by have := hcap r hl; omega)
    rw [decide_eq_true hl, Bool.and_true] at this
    have := of_decide_eq_false this
    exact Classical.byContradiction this
  · rw [e] at hs
    rcases pick_ok _ _ _ _ hs with x | ⟨x1, x2, x3⟩
    · cases x
    · simp only [Bool.and_eq_true, decide_eq_true_eq] at x3
      refine ⟨by omega, x3.2, x3.1, fun r hr hl hg => ?_⟩
      exact (q2 b e).2 r (by omega) (by have := hcap r hl; omega) (by rw [decide_eq_true hg, decide_eq_true hl]; rfl)
