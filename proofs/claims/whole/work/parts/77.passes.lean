/-! THE CLASS'S PASSES: pure -/
def vA (m : Mem) (pa : Int32) (F : Nat → Nat → Bool) (g : Nat → Int) (y x : Nat) : Prop := arcA (Em m pa) F y (16 + x) = true ∧ g y ≠ FAR ∧ g (16 + x) < g y + mat m x y
def vB (m : Mem) (F : Nat → Nat → Bool) (g : Nat → Int) (x y : Nat) : Prop := F x y = true ∧ g (16 + x) ≠ FAR ∧ g y < g (16 + x) - mat m x y
def PA (m : Mem) (pa : Int32) (F : Nat → Nat → Bool) (h g0 : Nat → Int) (f0 : Nat → Option Nat) (b : Bool) (g : Nat → Int) (f : Nat → Option Nat) (p r : Nat) : Prop :=
  GIm m pa F h g f ∧ (∀ x, x < 16 → g x = g0 x ∧ f x = f0 x) ∧ (∀ x, x < 12 → g0 (16 + x) ≤ g (16 + x)) ∧
  (∀ x, x < 12 → g (16 + x) ≠ g0 (16 + x) → ∃ y, y < 16 ∧ vA m pa F g0 y x ∧ g (16 + x) = g0 y + mat m x y) ∧ (b = false → g = g0 ∧ f = f0) ∧
  (b = true → ∃ y x, y < 16 ∧ x < 12 ∧ vA m pa F g0 y x) ∧ (∀ y x, y < 16 → x < 12 → (y < p ∨ (y = p ∧ x < r)) → arcA (Em m pa) F y (16 + x) = true → g0 y ≠ FAR → g0 y + mat m x y ≤ g (16 + x))
theorem PA.start {m : Mem} {pa : Int32} {F : Nat → Nat → Bool} {h g0 : Nat → Int} {f0 : Nat → Option Nat} (G : GIm m pa F h g0 f0) : PA m pa F h g0 f0 false g0 f0 0 0 := ⟨G, fun _ _ => ⟨rfl, rfl⟩, fun _ _ => Int.le_refl _, fun _ _ e => absurd rfl e, fun _ => ⟨rfl, rfl⟩, fun e => (by cases e), fun y x _ _ e => by omega⟩
theorem PA.to {m : Mem} {pa : Int32} {F : Nat → Nat → Bool} {h g0 g : Nat → Int} {f0 f : Nat → Option Nat} {b : Bool} {p r p' r' : Nat} (H : PA m pa F h g0 f0 b g f p r) (hh : ∀ y x, y < 16 → x < 12 → (y < p' ∨ (y = p' ∧ x < r')) → ¬ (y < p ∨ (y = p ∧ x < r)) → arcA (Em m pa) F y (16 + x) = true → g0 y ≠ FAR → g0 y + mat m x y ≤ g (16 + x)) : PA m pa F h g0 f0 b g f p' r' := by
  obtain ⟨h1, h2, h3, h4, h5, h6, h7⟩ := H
  refine ⟨h1, h2, h3, h4, h5, h6, fun y x hy hx hd ha hr => ?_⟩
  by_cases e : y < p ∨ (y = p ∧ x < r)
  · exact h7 y x hy hx e ha hr
  · exact hh y x hy hx hd e ha hr
theorem PA.upd {m : Mem} {pa : Int32} {F : Nat → Nat → Bool} {h g0 g : Nat → Int} {f0 f : Nat → Option Nat} {b : Bool} {p r : Nat} (S : Srch m pa F h) (H : PA m pa F h g0 f0 b g f p r) (hp : p < 16) (hr : r < 12) (ha : arcA (Em m pa) F p (16 + r) = true) (hz : g p ≠ FAR) (hl : g (16 + r) < g p + mat m r p) :
    PA m pa F h g0 f0 true (upO g (16 + r) (g p + mat m r p)) (upO f (16 + r) (some p)) p (r + 1) := by
  obtain ⟨h1, h2, h3, h4, h5, h6, h7⟩ := H
  have hl' : g (16 + r) < g p + arcC (mat m) p (16 + r) := by rw [arcC_pr]; exact hl
  have hG := h1.relax S.2 (u := p) (v := 16 + r) (by omega) (by omega) ha hz hl'
  rw [arcC_pr] at hG
  have ep := (h2 p hp).1
  have h3r := h3 r hr
  have hv : vA m pa F g0 p r := ⟨ha, by rw [← ep]; exact hz, by rw [← ep]; omega⟩
  refine ⟨hG, fun x hx => ?_, fun x hx => ?_, fun x hx hne => ?_, fun e => (by cases e), fun _ => ⟨p, r, hp, hr, hv⟩, fun y x hy hx hd ha' hr' => ?_⟩
  · rw [upO_ne _ _ (by omega), upO_ne _ _ (by omega)]
    exact h2 x hx
  · by_cases e : x = r
    · rw [e, upO_same]
      omega
    · rw [upO_ne _ _ (by omega)]
      exact h3 x hx
  · by_cases e : x = r
    · rw [e, upO_same, ep]
      exact ⟨p, hp, hv, rfl⟩
    · rw [upO_ne _ _ (by omega)] at hne ⊢
      exact h4 x hx hne
  · by_cases e : x = r
    · rw [e, upO_same]
      by_cases e' : y = p
      · rw [e', ep]
        exact Int.le_refl _
      · have := h7 y r hy hr (by omega) (by rw [e] at ha'; exact ha') hr'
        rw [e] at *
        omega
    · rw [upO_ne _ _ (by omega)]
      exact h7 y x hy hx (by omega) ha' hr'
def PB (m : Mem) (pa : Int32) (F : Nat → Nat → Bool) (h g0 : Nat → Int) (f0 : Nat → Option Nat) (b : Bool) (g : Nat → Int) (f : Nat → Option Nat) (r p : Nat) : Prop :=
  GIm m pa F h g f ∧ (∀ x, x < 12 → g (16 + x) = g0 (16 + x) ∧ f (16 + x) = f0 (16 + x)) ∧ (∀ y, y < 16 → g0 y ≤ g y) ∧
  (∀ y, y < 16 → g y ≠ g0 y → ∃ x, x < 12 ∧ vB m F g0 x y ∧ g y = g0 (16 + x) - mat m x y) ∧ (b = false → g = g0 ∧ f = f0) ∧
  (b = true → ∃ x y, x < 12 ∧ y < 16 ∧ vB m F g0 x y) ∧ (∀ x y, x < 12 → y < 16 → (x < r ∨ (x = r ∧ y < p)) → F x y = true → g0 (16 + x) ≠ FAR → g0 (16 + x) - mat m x y ≤ g y)
theorem PB.start {m : Mem} {pa : Int32} {F : Nat → Nat → Bool} {h g0 : Nat → Int} {f0 : Nat → Option Nat} (G : GIm m pa F h g0 f0) : PB m pa F h g0 f0 false g0 f0 0 0 := ⟨G, fun _ _ => ⟨rfl, rfl⟩, fun _ _ => Int.le_refl _, fun _ _ e => absurd rfl e, fun _ => ⟨rfl, rfl⟩, fun e => (by cases e), fun y x _ _ e => by omega⟩
theorem PB.to {m : Mem} {pa : Int32} {F : Nat → Nat → Bool} {h g0 g : Nat → Int} {f0 f : Nat → Option Nat} {b : Bool} {p r p' r' : Nat} (H : PB m pa F h g0 f0 b g f r p) (hh : ∀ x y, x < 12 → y < 16 → (x < r' ∨ (x = r' ∧ y < p')) → ¬ (x < r ∨ (x = r ∧ y < p)) → F x y = true → g0 (16 + x) ≠ FAR → g0 (16 + x) - mat m x y ≤ g y) : PB m pa F h g0 f0 b g f r' p' := by
  obtain ⟨h1, h2, h3, h4, h5, h6, h7⟩ := H
  refine ⟨h1, h2, h3, h4, h5, h6, fun x y hx hy hd ha hr => ?_⟩
  by_cases e : x < r ∨ (x = r ∧ y < p)
  · exact h7 x y hx hy e ha hr
  · exact hh x y hx hy hd e ha hr
theorem PB.upd {m : Mem} {pa : Int32} {F : Nat → Nat → Bool} {h g0 g : Nat → Int} {f0 f : Nat → Option Nat} {b : Bool} {p r : Nat} (S : Srch m pa F h) (H : PB m pa F h g0 f0 b g f r p) (hp : p < 16) (hr : r < 12) (hF : F r p = true) (hz : g (16 + r) ≠ FAR) (hl : g p < g (16 + r) - mat m r p) :
    PB m pa F h g0 f0 true (upO g p (g (16 + r) - mat m r p)) (upO f p (some (16 + r))) r (p + 1) := by
  obtain ⟨h1, h2, h3, h4, h5, h6, h7⟩ := H
  have ec : g (16 + r) + arcC (mat m) (16 + r) p = g (16 + r) - mat m r p := by rw [arcC_rp _ _ hp]; omega
  have hl' : g p < g (16 + r) + arcC (mat m) (16 + r) p := by rw [ec]; exact hl
  have hG := h1.relax S.2 (u := 16 + r) (v := p) (by omega) (by omega) ((arc_rp hr hp).mpr hF) hz hl'
  rw [ec] at hG
  have er := (h2 r hr).1
  have h3p := h3 p hp
  have hv : vB m F g0 r p := ⟨hF, by rw [← er]; exact hz, by rw [← er]; omega⟩
  refine ⟨hG, fun x hx => ?_, fun y hy => ?_, fun y hy hne => ?_, fun e => (by cases e), fun _ => ⟨r, p, hr, hp, hv⟩, fun x y hx hy hd ha' hr' => ?_⟩
  · rw [upO_ne _ _ (by omega), upO_ne _ _ (by omega)]
    exact h2 x hx
  · by_cases e : y = p
    · rw [e, upO_same]
      omega
    · rw [upO_ne _ _ e]
      exact h3 y hy
  · by_cases e : y = p
    · rw [e, upO_same, er]
      exact ⟨r, hr, hv, rfl⟩
    · rw [upO_ne _ _ e] at hne ⊢
      exact h4 y hy hne
  · by_cases e : y = p
    · rw [e, upO_same]
      by_cases e' : x = r
      · rw [e', er]
        exact Int.le_refl _
      · have := h7 x p hx hp (by omega) (by rw [e] at ha'; exact ha') hr'
        rw [e] at *
        omega
    · rw [upO_ne _ _ e]
      exact h7 x y hx hy (by omega) ha' hr'
def FXA (m : Mem) (pa : Int32) (F : Nat → Nat → Bool) (g : Nat → Int) : Prop := ∀ y x, y < 16 → x < 12 → ¬ vA m pa F g y x
def FXB (m : Mem) (F : Nat → Nat → Bool) (g : Nat → Int) : Prop := ∀ x y, x < 12 → y < 16 → ¬ vB m F g x y
theorem FX.of {m : Mem} {pa : Int32} {F : Nat → Nat → Bool} {g : Nat → Int} (ha : FXA m pa F g) (hb : FXB m F g) : FX (arcA (Em m pa) F) (arcC (mat m)) g := by
  intro u v hu hv h hr
  rcases arcA_iff.mp h with ⟨a1, a2, a3, a4, a5⟩ | ⟨a1, a2, a3, a4⟩
  · obtain ⟨r, rfl⟩ : ∃ r, v = 16 + r := ⟨v - 16, by omega⟩
    rw [arcC_pr]
    have := ha u r a1 (by omega)
    apply Classical.byContradiction
    intro hh
    exact this ⟨h, hr, by omega⟩
  · obtain ⟨r, rfl⟩ : ∃ r, u = 16 + r := ⟨u - 16, by omega⟩
    rw [show 16 + r - 16 = r by omega] at a4
    rw [arcC_rp _ _ a1]
    have := hb r v (by omega) a1
    apply Classical.byContradiction
    intro hh
    exact this ⟨a4, hr, by omega⟩
theorem PA.fx {m : Mem} {pa : Int32} {F : Nat → Nat → Bool} {h g0 g : Nat → Int} {f0 f : Nat → Option Nat} {b : Bool} (H : PA m pa F h g0 f0 b g f 16 0) : FXA m pa F g := by
  intro y x hy hx hv
  have := H.2.2.2.2.2.2 y x hy hx (by omega) hv.1 (by rw [← (H.2.1 y hy).1]; exact hv.2.1)
  have := hv.2.2
  rw [(H.2.1 y hy).1] at this
  omega
theorem PB.fx {m : Mem} {pa : Int32} {F : Nat → Nat → Bool} {h g0 g : Nat → Int} {f0 f : Nat → Option Nat} {b : Bool} (H : PB m pa F h g0 f0 b g f 12 0) : FXB m F g := by
  intro x y hx hy hv
  have := H.2.2.2.2.2.2 x y hx hy (by omega) hv.1 (by rw [← (H.2.1 x hx).1]; exact hv.2.1)
  have := hv.2.2
  rw [(H.2.1 x hx).1] at this
  omega
/-- the rounds come to an end: behind each arc that is not yet right stand so many reviewers -/
def JJ (m : Mem) (pa : Int32) (F : Nat → Nat → Bool) (h g : Nat → Int) (i : Nat) : Prop := ∀ y x, y < 16 → x < 12 → vA m pa F g y x → ∃ l : List Nat, l.length = i ∧ l.Nodup ∧ ∀ z, z ∈ l → z < 12 ∧ g (16 + z) ≠ FAR ∧ g y - h y ≤ g (16 + z) - h (16 + z)
def KK (m : Mem) (F : Nat → Nat → Bool) (h g : Nat → Int) (i : Nat) : Prop := ∀ x y, x < 12 → y < 16 → vB m F g x y → ∃ l : List Nat, l.length = i + 1 ∧ l.Nodup ∧ ∀ z, z ∈ l → z < 12 ∧ g (16 + z) ≠ FAR ∧ g (16 + x) - h (16 + x) ≤ g (16 + z) - h (16 + z)
theorem reach_up {A : Nat → Nat → Bool} {c : Nat → Nat → Int} {src : Nat → Bool} {h g : Nat → Int} {f : Nat → Option Nat} (G : GI A c src h g f) {v : Nat} (hv : v < 28) {x : Int} (hx : g v ≠ FAR) (hl : g v ≤ x) : x ≠ FAR := by
  have := G.low hv hx
  unfold FAR
  omega
theorem J_K {m : Mem} {pa : Int32} {F : Nat → Nat → Bool} {h g0 g : Nat → Int} {f0 f : Nat → Option Nat} {b : Bool} {i : Nat} (S : Srch m pa F h) (G0 : GIm m pa F h g0 f0) (H : PA m pa F h g0 f0 b g f 16 0) (hb : FXB m F g0) (hj : JJ m pa F h g0 i) : KK m F h g i := by
  obtain ⟨h1, h2, h3, h4, h5, h6, h7⟩ := H
  intro x y hx hy hv
  have hne : g (16 + x) ≠ g0 (16 + x) := fun e => hb x y hx hy ⟨hv.1, by rw [← e]; exact hv.2.1, by rw [← e, ← (h2 y hy).1]; exact hv.2.2⟩
  obtain ⟨y', hy', hv', e'⟩ := h4 x hx hne
  obtain ⟨l, l1, l2, l3⟩ := hj y' x hy' hx hv'
  have hpo := S.2.1 y' (16 + x) (by omega) (by omega) hv'.1
  rw [arcC_pr] at hpo
  have hg := hv'.2.2
  refine ⟨x :: l, by rw [List.length_cons, l1], List.nodup_cons.mpr ⟨fun hm => ?_, l2⟩, fun z hz => ?_⟩
  · have := (l3 x hm).2.2
    omega
  · rcases List.mem_cons.mp hz with e | hz
    · rw [e]
      exact ⟨hx, hv.2.1, Int.le_refl _⟩
    · obtain ⟨z1, z2, z3⟩ := l3 z hz
      have := h3 z z1
      exact ⟨z1, reach_up G0 (by omega) z2 this, by omega⟩
theorem K_J {m : Mem} {pa : Int32} {F : Nat → Nat → Bool} {h g0 g : Nat → Int} {f0 f : Nat → Option Nat} {b : Bool} {i : Nat} (S : Srch m pa F h) (H : PB m pa F h g0 f0 b g f 12 0) (ha : FXA m pa F g0) (hk : KK m F h g0 i) : JJ m pa F h g (i + 1) := by
  obtain ⟨h1, h2, h3, h4, h5, h6, h7⟩ := H
  intro y x hy hx hv
  have hne : g y ≠ g0 y := fun e => ha y x hy hx ⟨hv.1, by rw [← e]; exact hv.2.1, by rw [← e, ← (h2 x hx).1]; exact hv.2.2⟩
  obtain ⟨x', hx', hv', e'⟩ := h4 y hy hne
  obtain ⟨l, l1, l2, l3⟩ := hk x' y hx' hy hv'
  have hpo := S.2.1 (16 + x') y (by omega) (by omega) ((arc_rp hx' hy).mpr hv'.1)
  rw [arcC_rp _ _ hy] at hpo
  refine ⟨l, l1, l2, fun z hz => ?_⟩
  obtain ⟨z1, z2, z3⟩ := l3 z hz
  rw [(h2 z z1).1]
  exact ⟨z1, z2, by omega⟩
theorem K_end {m : Mem} {F : Nat → Nat → Bool} {h g : Nat → Int} {i : Nat} (hk : KK m F h g i) (hi : 12 ≤ i) : FXB m F g := by
  intro x y hx hy hv
  obtain ⟨l, l1, l2, l3⟩ := hk x y hx hy hv
  have := pigeon 12 l l2 (fun z hz => (l3 z hz).1)
  omega
