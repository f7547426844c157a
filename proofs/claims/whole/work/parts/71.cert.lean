/-! MATCHINGS: degrees, weights, certificates -/
def dR (F : Nat → Nat → Bool) (r : Nat) : Nat := cnt (F r) 16
def dP (F : Nat → Nat → Bool) (p : Nat) : Nat := cnt (fun r => F r p) 12
def szF (F : Nat → Nat → Bool) : Nat := sm (fun r => dR F r) 12
def wtF (w : Nat → Nat → Nat) (F : Nat → Nat → Bool) : Nat := sm (fun r => sm (fun p => if F r p then w r p else 0) 16) 12
def Feas (E : Nat → Nat → Bool) (cap ea : Nat → Nat) (F : Nat → Nat → Bool) : Prop := (∀ r p, r < 12 → p < 16 → F r p = true → E r p = true) ∧ (∀ r, r < 12 → dR F r ≤ cap r) ∧ (∀ p, p < 16 → dP F p ≤ ea p)
def chi (F : Nat → Nat → Bool) (r p : Nat) : Int := if F r p then 1 else 0
def s2 (x : Nat → Nat → Int) : Int := smZ (fun r => smZ (x r) 16) 12
theorem smZ_congr {f g : Nat → Int} : ∀ n, (∀ i, i < n → f i = g i) → smZ f n = smZ g n
  | 0, _ => rfl
  | n + 1, h => by
    show smZ f n + f n = smZ g n + g n
    rw [smZ_congr n (fun i hi => h i (by omega)), h n (by omega)]
theorem smZ_mono {f g : Nat → Int} : ∀ n, (∀ i, i < n → f i ≤ g i) → smZ f n ≤ smZ g n
  | 0, _ => Int.le_refl _
  | n + 1, h => by
    have h1 := smZ_mono n (fun i hi => h i (by omega))
    have h2 := h n (by omega)
    show smZ f n + f n ≤ smZ g n + g n
    omega
theorem smZ_add (f g : Nat → Int) : ∀ n, smZ (fun i => f i + g i) n = smZ f n + smZ g n
  | 0 => rfl
  | n + 1 => by
    show smZ (fun i => f i + g i) n + (f n + g n) = smZ f n + f n + (smZ g n + g n)
    rw [smZ_add f g n]
    omega
theorem smZ_sub (f g : Nat → Int) : ∀ n, smZ (fun i => f i - g i) n = smZ f n - smZ g n
  | 0 => rfl
  | n + 1 => by
    show smZ (fun i => f i - g i) n + (f n - g n) = smZ f n + f n - (smZ g n + g n)
    rw [smZ_sub f g n]
    omega
theorem smZ_mul (a : Int) (f : Nat → Int) : ∀ n, smZ (fun i => a * f i) n = a * smZ f n
  | 0 => by
    show (0 : Int) = a * 0
    rw [Int.mul_zero]
  | n + 1 => by
    show smZ (fun i => a * f i) n + a * f n = a * (smZ f n + f n)
    rw [smZ_mul a f n, Int.mul_add]
theorem smZ_swap (x : Nat → Nat → Int) (m : Nat) : ∀ n, smZ (fun r => smZ (x r) m) n = smZ (fun p => smZ (fun r => x r p) n) m
  | 0 => by
    have z : ∀ m, smZ (fun _ => (0 : Int)) m = 0 := by
      intro m
      induction m with
      | zero => rfl
      | succ m ih => show smZ _ m + 0 = 0; rw [ih]; rfl
    show (0 : Int) = smZ (fun p => smZ (fun r => x r p) 0) m
    exact (z m).symm
  | n + 1 => by
    show smZ (fun r => smZ (x r) m) n + smZ (x n) m = smZ (fun p => smZ (fun r => x r p) n + x n p) m
    rw [smZ_swap x m n, smZ_add]
theorem cnt_Z (P : Nat → Bool) : ∀ n, ((cnt P n : Nat) : Int) = smZ (fun i => if P i then 1 else 0) n
  | 0 => rfl
  | n + 1 => by
    show ((cnt P n + (if P n then 1 else 0) : Nat) : Int) = smZ _ n + (if P n then 1 else 0)
    rw [Int.natCast_add, cnt_Z P n]
    split <;> rfl
theorem sm_Z (f : Nat → Nat) : ∀ n, ((sm f n : Nat) : Int) = smZ (fun i => (f i : Int)) n
  | 0 => rfl
  | n + 1 => by
    show ((sm f n + f n : Nat) : Int) = smZ _ n + (f n : Int)
    rw [Int.natCast_add, sm_Z f n]
theorem dR_Z (F : Nat → Nat → Bool) (r : Nat) : (dR F r : Int) = smZ (chi F r) 16 := cnt_Z _ _
theorem dP_Z (F : Nat → Nat → Bool) (p : Nat) : (dP F p : Int) = smZ (fun r => chi F r p) 12 := cnt_Z _ _
theorem szF_Z (F : Nat → Nat → Bool) : (szF F : Int) = smZ (fun r => (dR F r : Int)) 12 := sm_Z _ _
theorem wtF_Z (w : Nat → Nat → Nat) (F : Nat → Nat → Bool) : (wtF w F : Int) = s2 (fun r p => if F r p then (w r p : Int) else 0) := by
  unfold wtF s2
  rw [sm_Z]
  refine smZ_congr 12 (fun r _ => ?_)
  rw [sm_Z]
  refine smZ_congr 16 (fun p _ => ?_)
  cases hh : F r p <;> simp [hh]
/-- weights against potentials -/
theorem pot_le {E F G : Nat → Nat → Bool} {w : Nat → Nat → Nat} {a b : Nat → Int} (hF : ∀ r p, r < 12 → p < 16 → F r p = true → (w r p : Int) ≥ a r + b p) (hG : ∀ r p, r < 12 → p < 16 → G r p = true → F r p = false → (w r p : Int) ≤ a r + b p) :
    (wtF w G : Int) - wtF w F ≤ smZ (fun r => a r * ((dR G r : Int) - dR F r)) 12 + smZ (fun p => b p * ((dP G p : Int) - dP F p)) 16 := by
  have e1 : smZ (fun r => a r * ((dR G r : Int) - dR F r)) 12 = s2 (fun r p => a r * (chi G r p - chi F r p)) := by
    unfold s2
    refine smZ_congr 12 (fun r _ => ?_)
    rw [smZ_mul, smZ_sub, ← dR_Z, ← dR_Z]
  have e2 : smZ (fun p => b p * ((dP G p : Int) - dP F p)) 16 = s2 (fun r p => b p * (chi G r p - chi F r p)) := by
    unfold s2
    rw [smZ_swap]
    refine smZ_congr 16 (fun p _ => ?_)
    rw [smZ_mul, smZ_sub, ← dP_Z, ← dP_Z]
  rw [e1, e2, wtF_Z, wtF_Z]
  unfold s2
  rw [← smZ_sub, ← smZ_add]
  refine smZ_mono 12 (fun r hr => ?_)
  rw [← smZ_sub, ← smZ_add]
  refine smZ_mono 16 (fun p hp => ?_)
  have h1 := hF r p hr hp
  have h2 := hG r p hr hp
  unfold chi
  cases hf : F r p <;> cases hg : G r p <;> simp [hf, hg] at h1 h2 ⊢ <;> omega
def Cert (E : Nat → Nat → Bool) (cap ea : Nat → Nat) (w : Nat → Nat → Nat) (F : Nat → Nat → Bool) (h : Nat → Int) (hT : Int) : Prop :=
  (∀ r p, r < 12 → p < 16 → E r p = true → F r p = false → h p + w r p ≤ h (16 + r)) ∧ (∀ r p, r < 12 → p < 16 → F r p = true → h (16 + r) ≤ h p + w r p) ∧
  (∀ p, p < 16 → dP F p < ea p → 0 ≤ h p) ∧ (∀ p, p < 16 → 0 < dP F p → h p ≤ 0) ∧ (∀ r, r < 12 → dR F r < cap r → h (16 + r) ≤ hT) ∧ (∀ r, r < 12 → 0 < dR F r → hT ≤ h (16 + r))
theorem mul_np {x y : Int} (h : (0 ≤ x ∧ y ≤ 0) ∨ (x ≤ 0 ∧ 0 ≤ y)) : x * y ≤ 0 := by
  rcases h with ⟨h1, h2⟩ | ⟨h1, h2⟩
  · exact Int.mul_nonpos_of_nonneg_of_nonpos h1 h2
  · rw [Int.mul_comm]
    exact Int.mul_nonpos_of_nonneg_of_nonpos h2 h1
theorem smZ_np {f : Nat → Int} : ∀ n, (∀ i, i < n → f i ≤ 0) → smZ f n ≤ 0
  | 0, _ => Int.le_refl _
  | n + 1, h => by
    have h1 := smZ_np n (fun i hi => h i (by omega))
    have h2 := h n (by omega)
    show smZ f n + f n ≤ 0
    omega
/-- a matching with a certificate is the best of its size -/
theorem Cert.opt {E : Nat → Nat → Bool} {cap ea : Nat → Nat} {w : Nat → Nat → Nat} {F G : Nat → Nat → Bool} {h : Nat → Int} {hT : Int} (C : Cert E cap ea w F h hT) (hF : Feas E cap ea F) (hG : Feas E cap ea G) (hs : szF G = szF F) : wtF w G ≤ wtF w F := by
  obtain ⟨c1, c2, c3, c4, c5, c6⟩ := C
  have hp := pot_le (E := E) (F := F) (G := G) (w := w) (a := fun r => h (16 + r)) (b := fun p => - h p) (fun r p hr hp hf => by
    have := c2 r p hr hp hf
    show (w r p : Int) ≥ h (16 + r) + - h p
    omega) (fun r p hr hp hg hf => by
    have := c1 r p hr hp (hG.1 r p hr hp hg) hf
    show (w r p : Int) ≤ h (16 + r) + - h p
    omega)
  have hsz : smZ (fun r => hT * ((dR G r : Int) - dR F r)) 12 = 0 := by
    rw [smZ_mul, smZ_sub, ← szF_Z, ← szF_Z, hs, Int.sub_self, Int.mul_zero]
  have h1 : smZ (fun r => h (16 + r) * ((dR G r : Int) - dR F r)) 12 - smZ (fun r => hT * ((dR G r : Int) - dR F r)) 12 ≤ 0 := by
    rw [← smZ_sub]
    refine smZ_np 12 (fun r hr => ?_)
    rw [← Int.sub_mul]
    apply mul_np
    have g1 := hG.2.1 r hr
    have f1 := hF.2.1 r hr
    have q5 := c5 r hr
    have q6 := c6 r hr
    by_cases z : dR F r < cap r
    · have := q5 z
      by_cases z' : 0 < dR F r
      · have := q6 z'
        by_cases z2 : (dR G r : Int) - dR F r ≤ 0
        · left; omega
        · right; omega
      · right; omega
    · by_cases z' : 0 < dR F r
      · have := q6 z'
        left; omega
      · by_cases z2 : 0 ≤ h (16 + r) - hT
        · left; omega
        · right; omega
  have h2 : smZ (fun p => - h p * ((dP G p : Int) - dP F p)) 16 ≤ 0 := by
    refine smZ_np 16 (fun p hp => ?_)
    apply mul_np
    have g1 := hG.2.2 p hp
    have f1 := hF.2.2 p hp
    have q3 := c3 p hp
    have q4 := c4 p hp
    by_cases z : dP F p < ea p
    · have := q3 z
      by_cases z' : 0 < dP F p
      · have := q4 z'
        by_cases z2 : (dP G p : Int) - dP F p ≤ 0
        · left; omega
        · right; omega
      · right; omega
    · by_cases z' : 0 < dP F p
      · have := q4 z'
        left; omega
      · by_cases z2 : 0 ≤ - h p
        · left; omega
        · right; omega
  omega
/-- a closed set without a sink: nothing larger -/
theorem cut_max {E : Nat → Nat → Bool} {cap ea : Nat → Nat} {F G : Nat → Nat → Bool} {X : Nat → Bool} (hF : Feas E cap ea F) (hG : Feas E cap ea G)
    (x1 : ∀ p, p < 16 → dP F p < ea p → X p = true) (x2 : ∀ r, r < 12 → X (16 + r) = true → ¬ dR F r < cap r) (x3 : ∀ r p, r < 12 → p < 16 → E r p = true → F r p = false → X p = true → X (16 + r) = true) (x4 : ∀ r p, r < 12 → p < 16 → F r p = true → X (16 + r) = true → X p = true) : szF G ≤ szF F := by
  have hp := pot_le (E := E) (F := F) (G := G) (w := fun _ _ => 1) (a := fun r => if X (16 + r) then 1 else 0) (b := fun p => if X p then 0 else 1) (fun r p hr hp hf => by
    have := x4 r p hr hp hf
    cases h1 : X (16 + r) <;> cases h2 : X p <;> simp [h1, h2] at this ⊢) (fun r p hr hp hg hf => by
    have := x3 r p hr hp (hG.1 r p hr hp hg) hf
    cases h1 : X (16 + r) <;> cases h2 : X p <;> simp [h1, h2] at this ⊢)
  have es : ∀ F, wtF (fun _ _ => 1) F = szF F := by
    intro F
    unfold wtF szF
    have : ∀ (P : Nat → Bool) n, sm (fun p => if P p then 1 else 0) n = cnt P n := by
      intro P n
      induction n with
      | zero => rfl
      | succ n ih => show sm _ n + _ = cnt P n + _; rw [ih]
    have e : (fun r => sm (fun p => if F r p then 1 else 0) 16) = (fun r => dR F r) := funext (fun r => this (F r) 16)
    rw [e]
  rw [es, es] at hp
  have h1 : smZ (fun r => (if X (16 + r) then (1 : Int) else 0) * ((dR G r : Int) - dR F r)) 12 ≤ 0 := by
    refine smZ_np 12 (fun r hr => ?_)
    have g1 := hG.2.1 r hr
    have f2 := x2 r hr
    cases hx : X (16 + r)
    · simp
    · have := f2 hx
      simp
      omega
  have h2 : smZ (fun p => (if X p then (0 : Int) else 1) * ((dP G p : Int) - dP F p)) 16 ≤ 0 := by
    refine smZ_np 16 (fun p hp => ?_)
    have g1 := hG.2.2 p hp
    have f2 := x1 p hp
    cases hx : X p
    · have : ¬ dP F p < ea p := fun e => by rw [f2 e] at hx; cases hx
      simp
      omega
    · simp
  omega
