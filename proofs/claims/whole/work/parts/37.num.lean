/-! NUMBERS, BITS, COUNTS -/
theorem nI_mul (a b : Nat) : nI a * nI b = nI (a * b) := (Int32.ofNat_mul a b).symm
theorem nx_or (a b : Nat) : nI a ||| nI b = nI (a ||| b) := by
  apply Int32.toBitVec_inj.mp
  rw [Int32.toBitVec_or]
  show BitVec.ofNat 32 a ||| BitVec.ofNat 32 b = BitVec.ofNat 32 (a ||| b)
  apply BitVec.eq_of_getLsbD_eq
  intro i hi
  simp [hi]
theorem bt_nI {k i : Nat} (h : i < 32) : bt (nI k) i = k.testBit i := by
  show (BitVec.ofNat 32 k).getLsbD i = _
  rw [BitVec.getLsbD_ofNat, decide_eq_true h, Bool.true_and]
theorem bt_1 (i : Nat) (h : i < 32) : bt 1 i = decide (i = 0) := by
  have := bt_nI (k := 1) h
  rw [show (1 : Int32) = nI 1 from rfl, this]
  cases i with
  | zero => rfl
  | succ i => simp [Nat.testBit_succ]
theorem sh_bit {k j : Nat} (hj : j < 32) : ((nI k >>> (nI j &&& 31)) &&& 1) = if k.testBit j then 1 else 0 := by
  apply b_ext
  intro i hi
  rw [b_and, b_sshr j hj _ hi, bt_1 i hi]
  by_cases h : i = 0
  · subst h
    rw [if_pos (by omega), bt_nI (by omega)]
    simp only [Nat.add_zero, decide_true, Bool.and_true]
    cases hb : k.testBit j
    · rw [if_neg (by decide)]
      rfl
    · rw [if_pos rfl]
      rfl
  · rw [decide_eq_false h, Bool.and_false]
    cases hb : k.testBit j
    · rw [if_neg (by decide)]
      exact (b_0 i).symm
    · rw [if_pos rfl, bt_1 i hi, decide_eq_false h]
theorem shl1 : ∀ j, j < 31 → ((1 : Int32) <<< (nI j &&& 31)) = nI (2 ^ j) := by decide +kernel
theorem or_bit {k j : Nat} (hj : j < 31) : nI k ||| ((1 : Int32) <<< (nI j &&& 31)) = nI (k ||| 2 ^ j) := by rw [shl1 j hj, nx_or]
theorem or_lt {k j : Nat} (hk : k < 65536) (hj : j < 16) : k ||| 2 ^ j < 65536 := Nat.or_lt_two_pow (n := 16) hk (Nat.pow_lt_pow_right (by omega) hj)
theorem or_tb (k j i : Nat) : (k ||| 2 ^ j).testBit i = (k.testBit i || decide (j = i)) := by rw [Nat.testBit_or, Nat.testBit_two_pow]
theorem and_not {k j : Nat} (hk : k < 65536) (hj : j < 31) : ∃ k', nI k &&& (((1 : Int32) <<< (nI j &&& 31)) ^^^ -1) = nI k' ∧ k' < 65536 ∧ ∀ i, i < 16 → k'.testBit i = (k.testBit i && decide (¬ j = i)) := by
  refine ⟨k &&& (2 ^ j ^^^ (2 ^ 32 - 1)), ?_, Nat.lt_of_le_of_lt Nat.and_le_left hk, fun i hi => ?_⟩
  · rw [shl1 j hj, show (-1 : Int32) = nI (2 ^ 32 - 1) by decide, nx_xor, nx_and]
  · rw [Nat.testBit_and, Nat.testBit_xor, Nat.testBit_two_pow, Nat.testBit_two_pow_sub_one, decide_eq_true (show i < 32 by omega)]
    by_cases h : j = i
    · simp [h]
    · simp [h]
/-- how many of the numbers below n have P -/
def cnt (P : Nat → Bool) : Nat → Nat
  | 0 => 0
  | n + 1 => cnt P n + if P n then 1 else 0
theorem cnt_le (P : Nat → Bool) : ∀ n, cnt P n ≤ n
  | 0 => Nat.le_refl 0
  | n + 1 => by
    have := cnt_le P n
    unfold cnt
    split <;> omega
theorem cnt_congr {P Q : Nat → Bool} : ∀ n, (∀ i, i < n → P i = Q i) → cnt P n = cnt Q n
  | 0, _ => rfl
  | n + 1, h => by
    show cnt P n + _ = cnt Q n + _
    rw [cnt_congr n (fun i hi => h i (by omega)), h n (by omega)]
theorem cnt_more {P : Nat → Bool} {a : Nat} : ∀ d, (∀ i, a ≤ i → i < a + d → P i = false) → cnt P (a + d) = cnt P a
  | 0, _ => rfl
  | d + 1, h => by
    show cnt P (a + d) + (if P (a + d) then 1 else 0) = _
    rw [cnt_more d (fun i h1 h2 => h i h1 (by omega)), h (a + d) (by omega) (by omega)]
    rfl
theorem cnt_zero {P : Nat → Bool} : ∀ n, (∀ i, i < n → P i = false) → cnt P n = 0
  | 0, _ => rfl
  | n + 1, h => by
    show cnt P n + _ = 0
    rw [cnt_zero n (fun i hi => h i (by omega)), h n (by omega)]
    rfl
/-- a loop whose state at each number is known -/
theorem loop_fn {β : Type} (L : Nat → Nat → Option β) (K : Nat) (out : β) (hs : ∀ n i, i < K → L (n + 1) i = L n (i + 1)) (he : ∀ n, L (n + 1) K = some out) : ∀ (d n i : Nat), i + d = K → d < n → L n i = some out := by
  intro d
  induction d with
  | zero =>
    intro n i hi hn
    obtain ⟨n, rfl⟩ : ∃ k, n = k + 1 := ⟨n - 1, by omega⟩
    obtain rfl : i = K := by omega
    exact he n
  | succ d ih =>
    intro n i hi hn
    obtain ⟨n, rfl⟩ : ∃ k, n = k + 1 := ⟨n - 1, by omega⟩
    rw [hs n i (by omega)]
    exact ih n (i + 1) (by omega) (by omega)
theorem isB_if {p : Prop} [Decidable p] : isB (if p then 1 else 0) = true := by
  by_cases h : p
  · rw [if_pos h]
    rfl
  · rw [if_neg h]
    rfl
theorem isB_if' {p : Prop} [Decidable p] : isB (if p then 0 else 1) = true := by
  by_cases h : p
  · rw [if_pos h]
    rfl
  · rw [if_neg h]
    rfl
theorem if10 {p : Prop} [Decidable p] : ((if p then (1 : Int32) else 0) = 0) = ¬ p := by
  by_cases h : p
  · rw [if_pos h]
    simp [h]
  · rw [if_neg h]
    simp [h]
theorem if01 {p : Prop} [Decidable p] : ((if p then (0 : Int32) else 1) = 0) = p := by
  by_cases h : p
  · rw [if_pos h]
    simp [h]
  · rw [if_neg h]
    simp [h]
theorem if10' {p : Prop} [Decidable p] : ((if p then (1 : Int32) else 0) = 1) = p := by
  by_cases h : p
  · rw [if_pos h]
    simp [h]
  · rw [if_neg h]
    simp [h]
