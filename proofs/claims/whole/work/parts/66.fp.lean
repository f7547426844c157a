/-! DOUBLES that are no NaN -/
def isF (d : Jvm.FP.Core.Datum) : Prop := ∃ s c q, d = .fin s c q
theorem okN_of {d : Jvm.FP.Core.Datum} (hf : Jvm.FP.Core.fits Jvm.FP.Core.b64 d) (hn : d ≠ .nan) : okN (Jvm.FP.Core.of64 d) = true := by
  have h1 := Jvm.FP.Core.encode_lt Jvm.FP.Core.good_b64 d hf
  rw [Jvm.FP.Core.size_b64] at h1
  unfold okN
  rw [decide_eq_true_iff, UInt64.le_iff_toNat_le, UInt64.toNat_and, show (0x7fffffffffffffff : UInt64).toNat = 2 ^ 63 - 1 from rfl, Nat.and_two_pow_sub_one_eq_mod, show (0x7ff0000000000000 : UInt64).toNat = 2047 * 2 ^ 52 from rfl]
  unfold Jvm.FP.Core.of64
  rw [UInt64.toNat_ofNat_of_lt' (by simpa using h1)]
  have ex : Jvm.FP.Core.b64.exps = 2048 := by decide
  have ta : Jvm.FP.Core.b64.tails = 4503599627370496 := by decide
  have as : ∀ s e t, Jvm.FP.Core.assemble Jvm.FP.Core.b64 s e t % 2 ^ 63 = (e * 4503599627370496 + t) % 2 ^ 63 := by
    intro s e t
    unfold Jvm.FP.Core.assemble
    rw [ex, ta]
    cases s
    · simp
    · simp only [Bool.toNat_true]
      omega
  cases d with
  | nan => exact absurd rfl hn
  | inf s =>
    change Jvm.FP.Core.assemble Jvm.FP.Core.b64 s (Jvm.FP.Core.b64.exps - 1) 0 % 2 ^ 63 ≤ _
    rw [as, ex]
    omega
  | fin s c q =>
    obtain ⟨hc, hq1, hq2, hq3⟩ := hf
    have pp : (2 : Nat) ^ Jvm.FP.Core.b64.p = 9007199254740992 := by decide
    have mn : Jvm.FP.Core.b64.qmin = -1074 := by decide
    have mx : Jvm.FP.Core.b64.qmax = 971 := by decide
    rw [pp] at hc
    rw [mn] at hq1
    rw [mx] at hq2
    change (if c < Jvm.FP.Core.b64.tails then Jvm.FP.Core.assemble Jvm.FP.Core.b64 s 0 c else Jvm.FP.Core.assemble Jvm.FP.Core.b64 s ((q - Jvm.FP.Core.b64.qmin).toNat + 1) (c - Jvm.FP.Core.b64.tails)) % 2 ^ 63 ≤ _
    rw [ta, mn]
    split
    · rw [as]
      omega
    · rw [as]
      have : (q - -1074).toNat ≤ 2045 := by omega
      omega
theorem rr_nn (f : Jvm.FP.Core.Fmt) (s : Bool) (A B : Nat) (e : Int) : Jvm.FP.Core.roundRatio f s A B e ≠ .nan := by
  unfold Jvm.FP.Core.roundRatio Jvm.FP.Core.roundAt Jvm.FP.Core.settle Jvm.FP.Core.bound
  split
  · intro h; cases h
  · split
    · split <;> (intro h; cases h)
    · split <;> (intro h; cases h)
/-- a rounded ratio is a number with a bounded exponent, if its quantum is bounded -/
theorem rr_fin {s : Bool} {A B : Nat} {e : Int} {Q : Int} (hA : 0 < A) (hQ : Jvm.FP.Core.quantum Jvm.FP.Core.b64 A B e ≤ Q) (h9 : Q ≤ 900) : ∃ c q, Jvm.FP.Core.roundRatio Jvm.FP.Core.b64 s A B e = .fin s c q ∧ q ≤ Q + 1 ∧ Jvm.FP.Core.quantum Jvm.FP.Core.b64 A B e ≤ q := by
  have mx : Jvm.FP.Core.b64.qmax = 971 := by decide
  unfold Jvm.FP.Core.roundRatio Jvm.FP.Core.roundAt Jvm.FP.Core.settle Jvm.FP.Core.bound
  rw [if_neg (by omega), mx]
  generalize Jvm.FP.Core.quantum Jvm.FP.Core.b64 A B e = k at *
  split
  · rw [if_pos (by omega)]
    exact ⟨_, _, rfl, by omega, by omega⟩
  · rw [if_pos (by omega)]
    exact ⟨_, _, rfl, by omega, by omega⟩
theorem lead_le (A B : Nat) : Jvm.FP.Core.leading A B ≤ (A.log2 : Int) := by
  unfold Jvm.FP.Core.leading
  simp only
  split <;> omega
theorem lead_ge1 (A : Nat) : -1 ≤ Jvm.FP.Core.leading A 1 := by
  unfold Jvm.FP.Core.leading
  have : Nat.log2 1 = 0 := by decide
  simp only [this]
  split <;> omega
theorem fr_i2d (n : Nat) (hn : n < 2 ^ 31) : ∃ c q, Jvm.FP.Core.val64 (Jvm.FP.Core.i2d (nI n)) = .fin false c q ∧ q ≤ 0 ∧ c < 2 ^ 53 ∧ (0 < n → 0 < c ∧ -60 ≤ q) := by
  have e : Jvm.FP.Core.i2d (nI n) = Jvm.FP.Core.of64 (Jvm.FP.Core.round Jvm.FP.Core.b64 (Jvm.FP.Core.ofInt n)) := by
    unfold Jvm.FP.Core.i2d Jvm.FP.Core.fromInt Jvm.FP.Core.of64
    rw [nI_toInt hn]
  have hfit := Jvm.FP.Core.round_fits Jvm.FP.Core.good_b64 (Jvm.FP.Core.ofInt n)
  rw [e, Jvm.FP.Core.val64_of64 hfit]
  have er : Jvm.FP.Core.round Jvm.FP.Core.b64 (Jvm.FP.Core.ofInt n) = Jvm.FP.Core.roundRatio Jvm.FP.Core.b64 false n 1 0 := by
    unfold Jvm.FP.Core.ofInt Jvm.FP.Core.round
    simp only [Int.natAbs_natCast]
    rw [decide_eq_false (by omega)]
  rw [er] at hfit ⊢
  have pp : (2 : Nat) ^ Jvm.FP.Core.b64.p = 9007199254740992 := by decide
  have mn : Jvm.FP.Core.b64.qmin = -1074 := by decide
  have ta : Jvm.FP.Core.b64.tails = 4503599627370496 := by decide
  by_cases h0 : n = 0
  · subst h0
    refine ⟨0, Jvm.FP.Core.b64.qmin, ?_, by rw [mn]; omega, by omega, fun h => absurd h (by omega)⟩
    unfold Jvm.FP.Core.roundRatio
    rw [if_pos rfl]
  · have hl : n.log2 < 31 := (Nat.log2_lt (by omega)).mpr hn
    have l1 := lead_le n 1
    have l2 := lead_ge1 n
    have hq : Jvm.FP.Core.quantum Jvm.FP.Core.b64 n 1 0 ≤ -21 ∧ -53 ≤ Jvm.FP.Core.quantum Jvm.FP.Core.b64 n 1 0 := by
      unfold Jvm.FP.Core.quantum
      rw [mn, show (Jvm.FP.Core.b64.p : Int) = 53 from rfl]
      omega
    obtain ⟨c, q, a1, a2, a3⟩ := rr_fin (s := false) (A := n) (B := 1) (e := 0) (Q := -21) (by omega) hq.1 (by omega)
    rw [a1] at hfit ⊢
    obtain ⟨f1, f2, f3, f4⟩ := hfit
    rw [pp] at f1
    rw [mn] at f4
    rw [ta] at f4
    exact ⟨c, q, rfl, by omega, by omega, fun _ => ⟨by omega, by omega⟩⟩
theorem fr_div {a b : Nat} (ha : a < 2 ^ 31) (hb : b < 2 ^ 31) (h0 : 0 < b) : ∃ s c q, Jvm.FP.Core.val64 (Jvm.FP.Core.ddiv (Jvm.FP.Core.i2d (nI a)) (Jvm.FP.Core.i2d (nI b))) = .fin s c q ∧ okN (Jvm.FP.Core.ddiv (Jvm.FP.Core.i2d (nI a)) (Jvm.FP.Core.i2d (nI b))) = true := by
  obtain ⟨c, q, a1, a2, a3, a4⟩ := fr_i2d a ha
  obtain ⟨d, r, b1, b2, b3, b4⟩ := fr_i2d b hb
  obtain ⟨b5, b6⟩ := b4 h0
  have e : Jvm.FP.Core.ddiv (Jvm.FP.Core.i2d (nI a)) (Jvm.FP.Core.i2d (nI b)) = Jvm.FP.Core.of64 (Jvm.FP.Core.roundRatio Jvm.FP.Core.b64 false c d (q - r)) := by
    unfold Jvm.FP.Core.val64 at a1 b1
    unfold Jvm.FP.Core.ddiv Jvm.FP.Core.div Jvm.FP.Core.of64
    rw [a1, b1]
    unfold Jvm.FP.Core.quotient
    simp only
    rw [if_neg (by omega)]
    rfl
  have hfit := Jvm.FP.Core.roundRatio_fits Jvm.FP.Core.good_b64 false c (B := d) b5 (q - r)
  have hok := okN_of hfit (rr_nn _ _ _ _ _)
  rw [e]
  rw [Jvm.FP.Core.val64_of64 hfit]
  have mn : Jvm.FP.Core.b64.qmin = -1074 := by decide
  by_cases hc : c = 0
  · refine ⟨false, 0, Jvm.FP.Core.b64.qmin, ?_, hok⟩
    unfold Jvm.FP.Core.roundRatio
    rw [if_pos hc]
  · have hl : c.log2 < 53 := (Nat.log2_lt (by omega)).mpr a3
    have l1 := lead_le c d
    have hq : Jvm.FP.Core.quantum Jvm.FP.Core.b64 c d (q - r) ≤ 100 := by
      unfold Jvm.FP.Core.quantum
      rw [mn, show (Jvm.FP.Core.b64.p : Int) = 53 from rfl]
      omega
    obtain ⟨c', q', x1, x2, x3⟩ := rr_fin (s := false) (A := c) (B := d) (e := q - r) (Q := 100) (by omega) hq (by omega)
    exact ⟨false, c', q', x1, hok⟩
theorem fr_sub {x y : UInt64} (hx : ∃ s c q, Jvm.FP.Core.val64 x = .fin s c q) (hy : ∃ s c q, Jvm.FP.Core.val64 y = .fin s c q) : okN (Jvm.FP.Core.dsub x y) = true := by
  obtain ⟨s, c, q, hx⟩ := hx
  obtain ⟨t, d, r, hy⟩ := hy
  unfold Jvm.FP.Core.val64 at hx hy
  have e : Jvm.FP.Core.dsub x y = Jvm.FP.Core.of64 (Jvm.FP.Core.round Jvm.FP.Core.b64 (Jvm.FP.Core.exactSum (.fin s c q) (Jvm.FP.Core.negate (.fin t d r)))) := by
    unfold Jvm.FP.Core.dsub Jvm.FP.Core.sub Jvm.FP.Core.of64
    rw [hx, hy]
  rw [e]
  refine okN_of (Jvm.FP.Core.round_fits Jvm.FP.Core.good_b64 _) ?_
  unfold Jvm.FP.Core.negate Jvm.FP.Core.exactSum Jvm.FP.Core.round
  exact rr_nn _ _ _ _ _
theorem fr_cmp {x : UInt64} (h : okN x = true) : Jvm.FP.Core.dcmp x x = some .eq := by
  have hn : Jvm.FP.Core.decode Jvm.FP.Core.b64 x.toNat ≠ .nan := by
    unfold okN at h
    rw [decide_eq_true_iff, UInt64.le_iff_toNat_le, UInt64.toNat_and, show (0x7fffffffffffffff : UInt64).toNat = 2 ^ 63 - 1 from rfl, Nat.and_two_pow_sub_one_eq_mod, show (0x7ff0000000000000 : UInt64).toNat = 2047 * 2 ^ 52 from rfl] at h
    have ex : Jvm.FP.Core.b64.exps = 2048 := by decide
    have ta : Jvm.FP.Core.b64.tails = 4503599627370496 := by decide
    unfold Jvm.FP.Core.decode Jvm.FP.Core.fieldE Jvm.FP.Core.fieldT
    rw [ex, ta]
    split
    · split
      · intro hh; cases hh
      · omega
    · split
      · intro hh; cases hh
      · intro hh; cases hh
  unfold Jvm.FP.Core.dcmp Jvm.FP.Core.cmp
  generalize Jvm.FP.Core.decode Jvm.FP.Core.b64 x.toNat = d at hn
  have cz : ∀ z : Int, compare z z = .eq := fun z => by
    simp
  cases d with
  | nan => exact absurd rfl hn
  | inf s =>
    show some (compare (Jvm.FP.Core.signed s 1) (Jvm.FP.Core.signed s 1)) = some .eq
    rw [cz]
  | fin s c q =>
    show some (compare (Jvm.FP.Core.signed s (Jvm.FP.Core.inUnits c q (min q q))) (Jvm.FP.Core.signed s (Jvm.FP.Core.inUnits c q (min q q)))) = some .eq
    rw [cz]
