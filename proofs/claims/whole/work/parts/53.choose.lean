/-! THE CHOICE of assignAll -/
def rcC (m : Mem) (r : Nat) : Nat := cnt (fun q => decide (¬ gI m 4 (16 * r + q) = 0)) 16
def rcM (m : Mem) (r : Nat) : Nat := cnt (vN (gI m 98 (14 + r))).testBit 16
def bet (f g : Nat → Nat) (r b : Nat) : Bool := decide (f b < f r) || (decide (f r = f b) && decide (g r < g b))
theorem mat_le (m : Mem) (r p : Nat) : mat m r p ≤ 2 := by
  unfold mat matN
  split
  · omega
  · split <;> omega
theorem c_better {N : Nat} (hN : 16 < N) {m : Mem} (h : RelB m) {r b p : Nat} (hr : r < nR m) (hb : b < nR m) (hp : p < nQ m) : f_X9_isBetterChoice N (nI r) (nI b) (nI p) m = some (if bet (fun k => mat m k p) (rcC m) r b = true then 1 else 0, m) := by
  have hR := h.R.2
  have m1 := mat_le m r p
  have m2 := mat_le m b p
  have c1 : rcC m r ≤ 16 := cnt_le _ 16
  have c2 : rcC m b ≤ 16 := cnt_le _ 16
  unfold f_X9_isBetterChoice bet
  rw [gd_t (st_k h.s), b2_of (c_mat N h hr hp), gd_t (st_k h.s), b2_of (c_mat N h hb hp), b2_of (show f_X7_reviewsOfReviewer N (nI r) m = some (nI (rcC m r), m) from c_revR hN (by omega) m), b2_of (show f_X7_reviewsOfReviewer N (nI b) m = some (nI (rcC m b), m) from c_revR hN (by omega) m)]
  by_cases he : mat m r p = mat m b p
  · rw [if_pos (by rw [he]), decide_eq_false (show ¬ mat m b p < mat m r p by omega), decide_eq_true he, Bool.false_or, Bool.true_and]
    by_cases hl : rcC m r < rcC m b
    · rw [if_neg (show ¬ nI (rcC m b) ≤ nI (rcC m r) from nI_ge hl (by omega)), decide_eq_true hl]
      rfl
    · rw [if_pos (show nI (rcC m b) ≤ nI (rcC m r) from nI_le (by omega) (by omega)), decide_eq_false hl]
      rfl
  · rw [if_neg (fun e => he ((nI_eq (by omega) (by omega)).mp e)), decide_eq_false he, Bool.false_and, Bool.or_false]
    by_cases hl : mat m b p < mat m r p
    · rw [if_neg (nI_ge hl (by omega)), decide_eq_true hl]
      rfl
    · rw [if_pos (nI_le (by omega) (by omega)), decide_eq_false hl]
      rfl
/-- the best so far, over d reviewers from i on -/
def pick (ok : Nat → Bool) (be : Nat → Nat → Bool) : Nat → Nat → Option Nat → Option Nat
  | 0, _, s => s
  | d + 1, i, s => pick ok be d (i + 1) (if ok i then (match s with | none => some i | some b => if be i b then some i else s) else s)
def oI : Option Nat → Int32
  | none => -1
  | some k => nI k
theorem oI_none {s : Option Nat} (h : ∀ k, s = some k → k < 2 ^ 31) : oI s = -1 ↔ s = none := by
  cases s with
  | none => exact ⟨fun _ => rfl, fun _ => rfl⟩
  | some k =>
    refine ⟨fun e => ?_, fun e => by cases e⟩
    exfalso
    exact nI_pos (n := k) (h k rfl) (by rw [show nI k = -1 from e]; decide)
