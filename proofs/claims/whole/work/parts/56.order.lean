/-! THE ORDER: the first round that separates two, who is before whom, places by counting -/
def sepd (f : Nat → Nat → Int) (a b : Nat) : Nat → Nat → Nat
  | 0, k => k
  | d + 1, k => if f k a = f k b then sepd f a b d (k + 1) else k
def bfd (f : Nat → Nat → Int) (a b : Nat) : Nat → Nat → Bool
  | 0, k => decide (f k b < f k a)
  | d + 1, k => if f k a = f k b then bfd f a b d (k + 1) else decide (f k b < f k a)
theorem bfd_sep (f : Nat → Nat → Int) (a b : Nat) : ∀ d k, bfd f a b d k = decide (f (sepd f a b d k) b < f (sepd f a b d k) a)
  | 0, _ => rfl
  | d + 1, k => by
    unfold bfd sepd
    by_cases h : f k a = f k b
    · rw [if_pos h, if_pos h]
      exact bfd_sep f a b d (k + 1)
    · rw [if_neg h, if_neg h]
theorem sepd_le (f : Nat → Nat → Int) (a b : Nat) : ∀ d k, k ≤ sepd f a b d k ∧ sepd f a b d k ≤ k + d
  | 0, k => ⟨Nat.le_refl _, Nat.le_refl _⟩
  | d + 1, k => by
    unfold sepd
    have := sepd_le f a b d (k + 1)
    split
    · omega
    · omega
theorem bfd_irr (f : Nat → Nat → Int) (a : Nat) : ∀ d k, bfd f a a d k = false
  | 0, _ => by unfold bfd; simp
  | d + 1, k => by
    unfold bfd
    rw [if_pos rfl]
    exact bfd_irr f a d (k + 1)
theorem bfd_trans (f : Nat → Nat → Int) (a b c : Nat) : ∀ d k, bfd f a b d k = true → bfd f b c d k = true → bfd f a c d k = true
  | 0, k => by
    unfold bfd
    simp only [decide_eq_true_eq]
    omega
  | d + 1, k => by
    have ih := bfd_trans f a b c d (k + 1)
    unfold bfd
    by_cases h1 : f k a = f k b <;> by_cases h2 : f k b = f k c
    · rw [if_pos h1, if_pos h2, if_pos (by omega)]
      exact ih
    · rw [if_pos h1, if_neg h2, if_neg (by omega)]
      simp only [decide_eq_true_eq]
      omega
    · rw [if_neg h1, if_pos h2, if_neg (by omega)]
      simp only [decide_eq_true_eq]
      omega
    · rw [if_neg h1, if_neg h2]
      simp only [decide_eq_true_eq]
      intro g1 g2
      rw [if_neg (by omega)]
      simp only [decide_eq_true_eq]
      omega
theorem bfd_total (f : Nat → Nat → Int) (a b : Nat) : ∀ d k, ¬ f (k + d) a = f (k + d) b → bfd f a b d k = !bfd f b a d k
  | 0, k, h => by
    unfold bfd
    rw [Nat.add_zero] at h
    by_cases h1 : f k b < f k a
    · rw [decide_eq_true h1, decide_eq_false (by omega)]
      rfl
    · rw [decide_eq_false h1, decide_eq_true (by omega)]
      rfl
  | d + 1, k, h => by
    have ih := bfd_total f a b d (k + 1) (by rw [show k + 1 + d = k + (d + 1) by omega]; exact h)
    unfold bfd
    by_cases h1 : f k a = f k b
    · rw [if_pos h1, if_pos h1.symm]
      exact ih
    · rw [if_neg h1, if_neg (fun h => h1 h.symm)]
      by_cases h1 : f k b < f k a
      · rw [decide_eq_true h1, decide_eq_false (by omega)]
        rfl
      · rw [decide_eq_false h1, decide_eq_true (by omega)]
        rfl
theorem cnt_mono {P Q : Nat → Bool} : ∀ n, (∀ i, i < n → P i = true → Q i = true) → cnt P n ≤ cnt Q n
  | 0, _ => Nat.le_refl 0
  | n + 1, h => by
    have ih := cnt_mono (P := P) (Q := Q) n (fun i hi => h i (by omega))
    have hn := h n (by omega)
    show cnt P n + _ ≤ cnt Q n + _
    cases hp : P n
    · cases Q n <;> simp <;> omega
    · rw [hn hp]
      simp
      omega
theorem cnt_lt {P Q : Nat → Bool} {j : Nat} : ∀ n, j < n → P j = false → Q j = true → (∀ i, i < n → P i = true → Q i = true) → cnt P n < cnt Q n
  | 0, hj, _, _, _ => by omega
  | n + 1, hj, h1, h2, h => by
    show cnt P n + _ < cnt Q n + _
    by_cases e : j = n
    · subst e
      have := cnt_mono (P := P) (Q := Q) j (fun i hi => h i (by omega))
      rw [h1, h2]
      simp
      omega
    · have ih := cnt_lt (P := P) (Q := Q) (j := j) n (by omega) h1 h2 (fun i hi => h i (by omega))
      have hn := h n (by omega)
      cases hp : P n
      · cases Q n <;> simp <;> omega
      · rw [hn hp]
        simp
        omega
/-- how many of the first K that are in come before p -/
def rk (rn : Nat → Bool) (bf : Nat → Nat → Bool) (K p : Nat) : Nat := cnt (fun q => rn q && bf q p) K
theorem rk_s (rn : Nat → Bool) (bf : Nat → Nat → Bool) (K p : Nat) : rk rn bf (K + 1) p = rk rn bf K p + if rn K && bf K p then 1 else 0 := rfl
theorem rk_lt {rn : Nat → Bool} {bf : Nat → Nat → Bool} (irr : ∀ a, bf a a = false) {K p : Nat} (hp : p < K) (hr : rn p = true) : rk rn bf K p < cnt rn K := by
  refine cnt_lt (j := p) K hp ?_ hr (fun i _ h => ?_)
  · simp [irr]
  · simp at h
    exact h.1
/-- who comes before p has the smaller place -/
theorem rk_bf {rn : Nat → Bool} {bf : Nat → Nat → Bool} (irr : ∀ a, bf a a = false) (tr : ∀ a b c, bf a b = true → bf b c = true → bf a c = true) {K a b : Nat} (ha : a < K) (hr : rn a = true) (h : bf a b = true) : rk rn bf K a < rk rn bf K b := by
  refine cnt_lt (j := a) K ha ?_ ?_ (fun i _ h' => ?_)
  · simp [irr]
  · simp [hr, h]
  · simp at h' ⊢
    exact ⟨h'.1, tr _ _ _ h'.2 h⟩
theorem rk_le {rn : Nat → Bool} {bf : Nat → Nat → Bool} (tr : ∀ a b c, bf a b = true → bf b c = true → bf a c = true) {K a b : Nat} (h : bf a b = true) : rk rn bf K a ≤ rk rn bf K b :=
  cnt_mono K (fun i _ h' => by
    simp at h' ⊢
    exact ⟨h'.1, tr _ _ _ h'.2 h⟩)
