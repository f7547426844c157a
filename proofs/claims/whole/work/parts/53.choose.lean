/-! THE CHOICE of assignAll -/
def rcC (m : Mem) (r : Nat) : Nat := cnt (fun q => decide (¬ gI m 4 (16 * r + q) = 0)) 16
def rcM (m : Mem) (r : Nat) : Nat := cnt (vN (gI m 98 (14 + r))).testBit 16
def bet (f g : Nat → Nat) (r b : Nat) : Bool := decide (f b < f r) || (decide (f r = f b) && decide (g r < g b))
theorem mat_le (m : Mem) (r p : Nat) : mat m r p ≤ 2 := by
  unfold mat matN
  split
  · omega
  · split <;> omega
theorem c_better {N : Nat} (hN : 16 < N) {m : Mem} (h : RelB m) {r b p : Nat} (hr : r < nR m) (hb : b < nR m) (hp : p < nQ m) : f_X9_isBetterChoice N (nI r) (nI b) (nI p) m = some (if bet (fun k => mat m k p) (rcC m) r b = true then 1 else 0, m) := by
  have hR := h.R.2
  have m1 := mat_le m r p
  have m2 := mat_le m b p
  have c1 : rcC m r ≤ 16 := cnt_le _ 16
  have c2 : rcC m b ≤ 16 := cnt_le _ 16
  unfold f_X9_isBetterChoice bet
  rw [gd_t (st_k h.s), b2_of (c_mat N h hr hp), gd_t (st_k h.s), b2_of (c_mat N h hb hp), b2_of (show f_X7_reviewsOfReviewer N (nI r) m = some (nI (rcC m r), m) from c_revR hN (by omega) m), b2_of (show f_X7_reviewsOfReviewer N (nI b) m = some (nI (rcC m b), m) from c_revR hN (by omega) m)]
  by_cases he : mat m r p = mat m b p
  · rw [if_pos (by rw [he]), decide_eq_false (show ¬ mat m b p < mat m r p by omega), decide_eq_true he, Bool.false_or, Bool.true_and]
    by_cases hl : rcC m r < rcC m b
    · rw [if_neg (show ¬ nI (rcC m b) ≤ nI (rcC m r) from nI_ge hl (by omega)), decide_eq_true hl]
      rfl
    · rw [if_pos (show nI (rcC m b) ≤ nI (rcC m r) from nI_le (by omega) (by omega)), decide_eq_false hl]
      rfl
  · rw [if_neg (fun e => he ((nI_eq (by omega) (by omega)).mp e)), decide_eq_false he, Bool.false_and, Bool.or_false]
    by_cases hl : mat m b p < mat m r p
    · rw [if_neg (nI_ge hl (by omega)), decide_eq_true hl]
      rfl
    · rw [if_pos (nI_le (by omega) (by omega)), decide_eq_false hl]
      rfl
/-- the best so far, over d reviewers from i on -/
def pick (ok : Nat → Bool) (be : Nat → Nat → Bool) : Nat → Nat → Option Nat → Option Nat
  | 0, _, s => s
  | d + 1, i, s => pick ok be d (i + 1) (if ok i then (match s with | none => some i | some b => if be i b then some i else s) else s)
def oI : Option Nat → Int32
  | none => -1
  | some k => nI k
theorem oI_none {s : Option Nat} (h : ∀ k, s = some k → k < 2 ^ 31) : oI s = -1 ↔ s = none := by
  cases s with
  | none => exact ⟨fun _ => rfl, fun _ => rfl⟩
  | some k =>
    refine ⟨fun e => ?_, fun e => by cases e⟩
    exfalso
    exact nI_pos (n := k) (h k rfl) (by rw [show nI k = -1 from e]; decide)
theorem pick_s (ok : Nat → Bool) (be : Nat → Nat → Bool) (d i : Nat) (s : Option Nat) : pick ok be (d + 1) i s = pick ok be d (i + 1) (if ok i then (match s with | none => some i | some b => if be i b then some i else s) else s) := rfl
theorem c_add_go {N : Nat} (hN : 16 < N) {m : Mem} (h : RelB m) (hde : ∀ r, r < 12 → gI m 5 r = gI m 98 (2 + r)) {p : Nat} (hp : p < nQ m) : ∀ d n i s, i + d = nR m → d < n → (∀ k, s = some k → k < i) →
    L_X9_addReview_4 N n (nI p) (oI s) (nI i) m = some (nI p, oI (pick (fun r => fit m r p && takeC m r p) (bet (fun k => mat m k p) (rcC m)) d i s), m) := by
  have hR := h.R.2
  have hQ := h.Q.2
  intro d
  induction d with
  | zero =>
    intro n i s hi hn hs
    obtain ⟨n, rfl⟩ : ∃ k, n = k + 1 := ⟨n - 1, by omega⟩
    show T_X9_addReview_4 N (L_X9_addReview_4 N n) _ _ _ _ = _
    unfold T_X9_addReview_4
    rw [gd_t (st_k h.s), h.cR, if_pos (nI_le (by omega) (by omega))]
    rfl
  | succ d ih =>
    intro n i s hi hn hs
    obtain ⟨n, rfl⟩ : ∃ k, n = k + 1 := ⟨n - 1, by omega⟩
    show T_X9_addReview_4 N (L_X9_addReview_4 N n) _ _ _ _ = _
    have ihs := ih n (i + 1) s (by omega) (by omega) (fun k hk => by have := hs k hk; omega)
    have ihi := ih n (i + 1) (some i) (by omega) (by omega) (fun k hk => by cases hk; omega)
    rw [show oI (some i) = nI i from rfl] at ihi
    unfold T_X9_addReview_4 B_X9_addReview_55
    rw [gd_t (st_k h.s), h.cR, if_neg (nI_ge (by omega) (by omega)), b2_of (c_fit N h (by omega) hp (hde i (by omega))), b2_of (c_canTake hN h (by omega) (by omega)), nI_1, ihs, ihi, pick_s]
    cases hf : fit m i p
    · rfl
    · cases ht : takeC m i p
      · rfl
      · rw [if_neg (by decide), if_neg (by decide)]
        cases s with
        | none => rfl
        | some b =>
          have hb := hs b rfl
          rw [if_neg (fun e => by cases (oI_none (s := some b) (fun k hk => by cases hk; omega)).mp e), show oI (some b) = nI b from rfl, b2_of (c_better hN h (by omega) (by omega) hp)]
          cases hbe : bet (fun k => mat m k p) (rcC m) i b
          · rw [if_pos (by rfl)]
            simp [hbe]
            exact ihs
          · rw [if_neg (by decide)]
            simp [hbe]
            exact ihi
def takeM (m : Mem) (r p : Nat) : Bool := !((vN (gI m 98 (14 + r))).testBit p) && decide (rcM m r < vN (gI m 96 (13 + 4 * r)))
theorem dif3 : ∀ a, a < 3 → ∀ b, b < 3 → ((0 < nI a - nI b) = (b < a) ∧ (nI a - nI b = 0) = (a = b)) := by decide +kernel
theorem m_choose_go {N : Nat} (hN : 16 < N) {m : Mem} (h : RelB m) {p : Nat} (hp : p < nQ m) : ∀ d n i s, i + d = nR m → d < n → (∀ k, s = some k → k < i) →
    L_X10_chooses_4 N n (nI p) (oI s) (nI i) m = some (oI (pick (fun r => fit m r p && takeM m r p) (bet (fun k => mat m k p) (rcM m)) d i s), m) := by
  have hR := h.R.2
  have hQ := h.Q.2
  intro d
  induction d with
  | zero =>
    intro n i s hi hn hs
    obtain ⟨n, rfl⟩ : ∃ k, n = k + 1 := ⟨n - 1, by omega⟩
    show T_X10_chooses_4 N (L_X10_chooses_4 N n) _ _ _ _ = _
    unfold T_X10_chooses_4
    rw [h.R.1, if_pos (nI_le (by omega) (by omega))]
    rfl
  | succ d ih =>
    intro n i s hi hn hs
    obtain ⟨n, rfl⟩ : ∃ k, n = k + 1 := ⟨n - 1, by omega⟩
    show T_X10_chooses_4 N (L_X10_chooses_4 N n) _ _ _ _ = _
    have ihs := ih n (i + 1) s (by omega) (by omega) (fun k hk => by have := hs k hk; omega)
    have ihi := ih n (i + 1) (some i) (by omega) (by omega) (fun k hk => by cases hk; omega)
    rw [show oI (some i) = nI i from rfl] at ihi
    obtain ⟨q1, q2⟩ := h.cap (show i < nR m by omega)
    have c1 : rcM m i ≤ 16 := cnt_le _ 16
    unfold T_X10_chooses_4 B_X10_chooses_71 B_X10_chooses_96 B_X10_chooses_100 B_X10_chooses_101
    rw [h.R.1, if_neg (nI_ge (by omega) (by omega)), b2_of (m_fit N h (by omega) (by omega)), b2_of (m_isReview N (by omega) (by omega) m (h.2.2.2.1 _ (by omega))), b2_of (show f_X10_reviewsBy N (nI i) m = some (nI (rcM m i), m) from m_reviewsBy hN h (by omega)), show (2 : Int32) = nI 2 from rfl, b2_of (m_reviewer N (by omega) (by omega) m), nI_1, ihs, ihi, show gI m 96 (11 + 2 + 4 * i) = gI m 96 (13 + 4 * i) from rfl, q1, pick_s]
    cases hf : fit m i p
    · rfl
    · cases hv : (vN (gI m 98 (14 + i))).testBit p
      · by_cases hl : rcM m i < vN (gI m 96 (13 + 4 * i))
        · have ht : takeM m i p = true := by
            unfold takeM
            rw [hv, decide_eq_true hl]
            rfl
          rw [if_neg (by decide), if_pos (by rfl), if_pos (nI_lt hl (by omega))]
          cases s with
          | none =>
            rw [if_pos (show oI none = -1 from rfl), if_pos (by decide), ht]
            rfl
          | some b =>
            have hb := hs b rfl
            have m1 := mat_le m i p
            have m2 := mat_le m b p
            have c2 : rcM m b ≤ 16 := cnt_le _ 16
            obtain ⟨d1, d2⟩ := dif3 (mat m i p) (by omega) (mat m b p) (by omega)
            rw [if_neg (fun e => by cases (oI_none (s := some b) (fun k hk => by cases hk; omega)).mp e), show oI (some b) = nI b from rfl, b2_of (m_mat N h (by omega) hp), b2_of (m_mat N h (by omega) hp)]
            simp only [ht, Bool.and_self, if_true]
            unfold bet
            by_cases h1 : mat m b p < mat m i p
            · rw [if_pos (by rw [d1]; exact h1)]
              simp [h1]
              exact ihi
            · rw [if_neg (by rw [d1]; exact h1)]
              by_cases h2 : mat m i p = mat m b p
              · rw [if_pos (by rw [d2]; exact h2), b2_of (show f_X10_reviewsBy N (nI i) m = some (nI (rcM m i), m) from m_reviewsBy hN h (by omega)), b2_of (show f_X10_reviewsBy N (nI b) m = some (nI (rcM m b), m) from m_reviewsBy hN h (by omega))]
                by_cases h3 : rcM m i < rcM m b
                · rw [if_neg (nI_ge h3 (by omega))]
                  simp [h2, h3]
                  exact ihi
                · rw [if_pos (nI_le (by omega) (by omega))]
                  simp [h2, h3]
                  exact ihs
              · rw [if_neg (by rw [d2]; exact h2)]
                simp [h1, h2]
                exact ihs
        · have ht : takeM m i p = false := by
            unfold takeM
            rw [hv, decide_eq_false hl]
            rfl
          rw [if_neg (by decide), if_pos (by rfl), if_neg (nI_nlt (by omega) (by omega))]
          simp [ht]
      · have ht : takeM m i p = false := by
          unfold takeM
          rw [hv]
          rfl
        rw [if_neg (by decide), if_neg (by decide)]
        simp [ht]
