/-! THE FIGURES of reviewers and proposals, of the scores s -/
def sN (s : Nat → Nat → Nat) : Prop := ∀ r, r < 12 → ∀ p, p < 16 → s r p ≤ 100
def gv (s : Nat → Nat → Nat) (r : Nat) : Nat := cnt (fun k => decide (¬ s r k = 0)) 16
def tl (s : Nat → Nat → Nat) (r : Nat) : Nat := sm (s r) 16
def off (s : Nat → Nat → Nat) (r k : Nat) : Int := (gv s r : Int) * s r k - tl s r
def dv (s : Nat → Nat → Nat) (r : Nat) : Nat := sm (fun k => if s r k = 0 then 0 else (off s r k).natAbs) 16
def aj (s : Nat → Nat → Nat) (r p : Nat) : Int := if dv s r = 0 then 50000 else 50000 + (20000 * (gv s r : Int) * off s r p) / dv s r
def smZ (f : Nat → Int) : Nat → Int
  | 0 => 0
  | n + 1 => smZ f n + f n
def sz (s : Nat → Nat → Nat) (p : Nat) : Int := smZ (fun r => if s r p = 0 then 0 else aj s r p) 12
def sn (s : Nat → Nat → Nat) (p : Nat) : Nat := cnt (fun r => decide (¬ s r p = 0)) 12
def nm (s : Nat → Nat → Nat) (p : Nat) : Int := if sn s p = 0 then 0 else sz s p / sn s p
def mn (f : Nat → Nat) (c : Nat) : Nat → Nat
  | 0 => c
  | n + 1 => if f n = 0 then mn f c n else if f n < mn f c n then f n else mn f c n
def ls (s : Nat → Nat → Nat) (p : Nat) : Nat := mn (fun r => s r p) 101 12
def hg (s : Nat → Nat → Nat) (p : Nat) : Nat := cnt (fun r => decide (80 ≤ s r p)) 12
theorem sm_le {f : Nat → Nat} {c : Nat} : ∀ n, (∀ i, i < n → f i ≤ c) → sm f n ≤ c * n
  | 0, _ => Nat.zero_le _
  | n + 1, h => by
    have := sm_le (f := f) (c := c) n (fun i hi => h i (by omega))
    have := h n (by omega)
    show sm f n + f n ≤ _
    rw [Nat.mul_succ]
    omega
theorem sm_ge {f : Nat → Nat} {j : Nat} : ∀ n, j < n → f j ≤ sm f n
  | 0, h => by omega
  | n + 1, h => by
    show f j ≤ sm f n + f n
    by_cases e : j = n
    · subst e
      omega
    · have := sm_ge (f := f) (j := j) n (by omega)
      omega
theorem gv_le (s : Nat → Nat → Nat) (r : Nat) : gv s r ≤ 16 := cnt_le _ 16
theorem tl_le {s : Nat → Nat → Nat} (h : sN s) {r : Nat} (hr : r < 12) : tl s r ≤ 1600 := sm_le (c := 100) 16 (fun k hk => h r hr k hk)
theorem off_le {s : Nat → Nat → Nat} (h : sN s) {r k : Nat} (hr : r < 12) (hk : k < 16) : -1600 ≤ off s r k ∧ off s r k ≤ 1600 := by
  have h1 := tl_le h hr
  have h2 : gv s r * s r k ≤ 16 * 100 := Nat.mul_le_mul (gv_le s r) (h r hr k hk)
  have h3 : ((gv s r * s r k : Nat) : Int) = (gv s r : Int) * s r k := Int.natCast_mul _ _
  unfold off
  omega
theorem dv_le {s : Nat → Nat → Nat} (h : sN s) {r : Nat} (hr : r < 12) : dv s r ≤ 25600 := sm_le (c := 1600) 16 (fun k hk => by
  have := off_le h hr hk
  split <;> omega)
theorem dv_ge {s : Nat → Nat → Nat} {r k : Nat} (hk : k < 16) (hz : ¬ s r k = 0) : (off s r k).natAbs ≤ dv s r := by
  have := sm_ge (f := fun k => if s r k = 0 then 0 else (off s r k).natAbs) (j := k) 16 hk
  simp only [if_neg hz] at this
  exact this
theorem nu_le {s : Nat → Nat → Nat} (h : sN s) {r k : Nat} (hr : r < 12) (hk : k < 16) : -512000000 ≤ 20000 * (gv s r : Int) * off s r k ∧ 20000 * (gv s r : Int) * off s r k ≤ 512000000 := by
  have h1 := gv_le s r
  have h2 := off_le h hr hk
  generalize hg : gv s r = g at *
  generalize off s r k = x at *
  have e : 20000 * (g : Int) * x = 20000 * ((g : Int) * x) := by rw [Int.mul_assoc]
  rw [e]
  have : -(16 * 1600) ≤ (g : Int) * x ∧ (g : Int) * x ≤ 16 * 1600 := by
    constructor
    · have a1 : (g : Int) * (-1600) ≤ (g : Int) * x := Int.mul_le_mul_of_nonneg_left (by omega) (by omega)
      omega
    · have a1 : (g : Int) * x ≤ (g : Int) * 1600 := Int.mul_le_mul_of_nonneg_left (by omega) (by omega)
      omega
  omega
theorem aj_le {s : Nat → Nat → Nat} {r p : Nat} (hp : p < 16) (hz : ¬ s r p = 0) : -270000 ≤ aj s r p ∧ aj s r p ≤ 370000 := by
  unfold aj
  by_cases hd : dv s r = 0
  · rw [if_pos hd]
    omega
  · rw [if_neg hd]
    have h1 := gv_le s r
    have h2 := dv_ge hp hz
    generalize gv s r = g at *
    generalize off s r p = x at *
    generalize dv s r = d at *
    have e : 20000 * (g : Int) * x = 20000 * ((g : Int) * x) := by rw [Int.mul_assoc]
    have b1 : (g : Int) * x ≤ (g : Int) * d := Int.mul_le_mul_of_nonneg_left (by omega) (by omega)
    have b2 : (g : Int) * d ≤ 16 * d := Int.mul_le_mul_of_nonneg_right (by omega) (by omega)
    have b3 : (g : Int) * (-d) ≤ (g : Int) * x := Int.mul_le_mul_of_nonneg_left (by omega) (by omega)
    rw [Int.mul_neg] at b3
    have c1 : 20000 * (g : Int) * x / d ≤ 320000 := Int.ediv_le_of_le_mul (by omega) (by omega)
    have c2 : -320000 ≤ 20000 * (g : Int) * x / d := Int.le_ediv_of_mul_le (by omega) (by omega)
    omega
theorem smZ_le {f : Nat → Int} {a b : Int} : ∀ n, (∀ i, i < n → a ≤ f i ∧ f i ≤ b) → a * n ≤ smZ f n ∧ smZ f n ≤ b * n
  | 0, _ => by
    show a * ((0 : Nat) : Int) ≤ 0 ∧ 0 ≤ b * ((0 : Nat) : Int)
    simp
  | n + 1, h => by
    have h1 := smZ_le (f := f) (a := a) (b := b) n (fun i hi => h i (by omega))
    have h2 := h n (by omega)
    show a * ((n + 1 : Nat) : Int) ≤ smZ f n + f n ∧ smZ f n + f n ≤ b * ((n + 1 : Nat) : Int)
    rw [Int.natCast_add, Int.mul_add, Int.mul_add]
    omega
theorem sz_le (s : Nat → Nat → Nat) {p : Nat} (hp : p < 16) {n : Nat} (hn : n ≤ 12) : -4440000 ≤ smZ (fun r => if s r p = 0 then 0 else aj s r p) n ∧ smZ (fun r => if s r p = 0 then 0 else aj s r p) n ≤ 4440000 := by
  have := smZ_le (f := fun r => if s r p = 0 then 0 else aj s r p) (a := -270000) (b := 370000) n (fun r hr => by
    by_cases hz : s r p = 0
    · simp only [if_pos hz]
      omega
    · simp only [if_neg hz]
      exact aj_le hp hz)
  omega
theorem nm_le (s : Nat → Nat → Nat) {p : Nat} (hp : p < 16) : -4440000 ≤ nm s p ∧ nm s p ≤ 4440000 := by
  unfold nm
  by_cases h0 : sn s p = 0
  · rw [if_pos h0]
    omega
  · rw [if_neg h0]
    have h1 := sz_le s hp (n := 12) (by omega)
    change -4440000 ≤ sz s p ∧ sz s p ≤ 4440000 at h1
    generalize sz s p = z at *
    generalize sn s p = d at *
    have c1 : z / d ≤ 4440000 := Int.ediv_le_of_le_mul (by omega) (by omega)
    have c2 : -4440000 ≤ z / d := Int.le_ediv_of_mul_le (by omega) (by omega)
    omega
theorem mn_101 {f : Nat → Nat} : ∀ n, (∀ i, i < n → f i ≤ 100) → 0 < cnt (fun i => decide (¬ f i = 0)) n → mn f 101 n = mn f 100 n ∧ mn f 101 n ≤ 100
  | 0, _, h => by
    exact absurd h (by show ¬ 0 < 0; omega)
  | n + 1, hb, h => by
    have hn := hb n (by omega)
    have ih := mn_101 (f := f) n (fun i hi => hb i (by omega))
    show (if f n = 0 then mn f 101 n else _) = (if f n = 0 then mn f 100 n else _) ∧ (if f n = 0 then mn f 101 n else _) ≤ 100
    by_cases h0 : f n = 0
    · rw [if_pos h0, if_pos h0]
      refine ih ?_
      change 0 < cnt _ n + (if decide (¬ f n = 0) then 1 else 0) at h
      rw [if_neg (by simp [h0])] at h
      exact h
    · rw [if_neg h0, if_neg h0]
      by_cases hc : 0 < cnt (fun i => decide (¬ f i = 0)) n
      · obtain ⟨e1, e2⟩ := ih hc
        rw [e1] at e2 ⊢
        refine ⟨rfl, ?_⟩
        split <;> omega
      · have z : ∀ c m, cnt (fun i => decide (¬ f i = 0)) m = 0 → mn f c m = c := by
          intro c m
          induction m with
          | zero => intro _; rfl
          | succ m ih =>
            intro hm
            change cnt _ m + (if decide (¬ f m = 0) then 1 else 0) = 0 at hm
            by_cases hf : f m = 0
            · show (if f m = 0 then mn f c m else _) = c
              rw [if_pos hf]
              exact ih (by omega)
            · rw [if_pos (by simp [hf])] at hm
              omega
        rw [z 101 n (by omega), z 100 n (by omega)]
        rw [if_pos (by omega)]
        refine ⟨?_, hn⟩
        by_cases h100 : f n < 100
        · rw [if_pos h100]
        · rw [if_neg h100]
          omega
theorem mn_le {f : Nat → Nat} {c : Nat} : ∀ n, mn f c n ≤ c
  | 0 => Nat.le_refl _
  | n + 1 => by
    have := mn_le (f := f) (c := c) n
    show (if f n = 0 then mn f c n else _) ≤ c
    split
    · exact this
    · split <;> omega
theorem zB_nat {n : Nat} (h : n < 2 ^ 31) : zB (n : Int) := by unfold zB; omega
theorem zabs {α : Type} {x : Int} (h : zB x) (f : Int32 → α) : (if 0 ≤ zI x then f (zI x) else f (0 - zI x)) = f (nI x.natAbs) ∧ (if 0 ≤ zI x then f (zI x) else f (- zI x)) = f (nI x.natAbs) := by
  have h0 : (0 ≤ zI x) ↔ 0 ≤ x := zI_le (a := 0) (by unfold zB; omega) h
  have e : 0 - zI x = zI (-x) := by rw [show (0 : Int32) = zI 0 from rfl, zI_sub]; congr 1; omega
  rw [e, zI_neg]
  by_cases hx : 0 ≤ x
  · rw [if_pos (h0.mpr hx), ← zI_nI, show ((x.natAbs : Nat) : Int) = x by omega]
    exact ⟨rfl, rfl⟩
  · rw [if_neg (fun q => hx (h0.mp q)), ← zI_nI, show ((x.natAbs : Nat) : Int) = -x by omega]
    exact ⟨rfl, rfl⟩
theorem off_z (s : Nat → Nat → Nat) (r k : Nat) : nI (gv s r) * nI (s r k) - nI (tl s r) = zI (off s r k) := by
  rw [← zI_nI, ← zI_nI, ← zI_nI, zI_mul, zI_sub]
  rfl
