/-! POPULATION COUNTS -/
theorem cnt_shift (P : Nat → Bool) : ∀ n, cnt P (n + 1) = (if P 0 then 1 else 0) + cnt (fun i => P (i + 1)) n
  | 0 => by
    show 0 + (if P 0 then 1 else 0) = (if P 0 then 1 else 0) + 0
    rw [Nat.zero_add, Nat.add_zero]
  | n + 1 => by
    have h := cnt_shift P n
    show cnt P (n + 1) + (if P (n + 1) then 1 else 0) = _ + (cnt (fun i => P (i + 1)) n + (if P (n + 1) then 1 else 0))
    omega
theorem pop_step : ∀ n k, 0 < k → k < 2 ^ n → cnt (k &&& (k - 1)).testBit n + 1 = cnt k.testBit n := by
  intro n
  induction n with
  | zero =>
    intro k h1 h2
    simp at h2
    omega
  | succ n ih =>
    intro k h1 h2
    rw [cnt_shift, cnt_shift]
    have e1 : (fun i => (k &&& (k - 1)).testBit (i + 1)) = ((k / 2) &&& ((k - 1) / 2)).testBit := by
      funext i
      rw [Nat.testBit_and, Nat.testBit_succ, Nat.testBit_succ, Nat.testBit_and]
    have e2 : (fun i => k.testBit (i + 1)) = (k / 2).testBit := by
      funext i
      rw [Nat.testBit_succ]
    rw [e1, e2, Nat.testBit_and, Nat.testBit_zero, Nat.testBit_zero]
    by_cases h : k % 2 = 1
    · rw [show (k - 1) / 2 = k / 2 by omega, Nat.and_self, show (k - 1) % 2 = 0 by omega, h]
      simp
      omega
    · rw [show (k - 1) / 2 = k / 2 - 1 by omega, show k % 2 = 0 by omega]
      have := ih (k / 2) (by omega) (by rw [Nat.pow_succ] at h2; omega)
      simp
      omega
theorem m_bits_go (N : Nat) (m : Mem) : ∀ n k c, k < 65536 → cnt k.testBit 16 < n → L_X10_bits_4 N n (nI c) (nI k) m = some (nI (c + cnt k.testBit 16), m) := by
  intro n
  induction n with
  | zero =>
    intro k c _ h
    omega
  | succ n ih =>
    intro k c hk h
    show T_X10_bits_4 N (L_X10_bits_4 N n) _ _ _ = _
    unfold T_X10_bits_4
    by_cases h0 : k = 0
    · subst h0
      rw [if_pos (show nI 0 = 0 from rfl), cnt_zero 16 (fun i _ => Nat.zero_testBit i)]
      rfl
    · rw [if_neg (nI_ne0 (by omega) (by omega)), nI_1]
      have e : nI k &&& (nI k - 1) = nI (k &&& (k - 1)) := by
        obtain ⟨j, rfl⟩ : ∃ j, k = j + 1 := ⟨k - 1, by omega⟩
        rw [nI_pred, nx_and, Nat.add_sub_cancel]
      have hp := pop_step 16 k (by omega) hk
      rw [e, ih _ _ (Nat.lt_of_le_of_lt Nat.and_le_left hk) (by omega), ← hp]
      rw [show c + 1 + cnt (k &&& (k - 1)).testBit 16 = c + (cnt (k &&& (k - 1)).testBit 16 + 1) by omega]
theorem m_bits {N k : Nat} (hN : 16 < N) (hk : k < 65536) (m : Mem) : f_X10_bits N (nI k) m = some (nI (cnt k.testBit 16), m) := by
  unfold f_X10_bits
  have h := m_bits_go N m N k 0 hk (Nat.lt_of_le_of_lt (cnt_le _ 16) hN)
  rw [Nat.zero_add] at h
  exact (l2_of h).trans rfl
theorem m_bits' {N : Nat} {x : Int32} (hN : 16 < N) (hx : 0 ≤ x.toInt) (hk : vN x < 65536) (m : Mem) : f_X10_bits N x m = some (nI (cnt (vN x).testBit 16), m) := by
  have := m_bits hN hk m
  rw [← vN_eq hx] at this
  exact this
theorem nI_sub {a b : Nat} (h : b ≤ a) : nI a - nI b = nI (a - b) := (Int32.ofNat_sub a b h).symm
theorem and_split {a b c d : Nat} (hb : b < 256) (hd : d < 256) : (256 * a + b) &&& (256 * c + d) = 256 * (a &&& c) + (b &&& d) := by
  have hbd : b &&& d < 2 ^ 8 := Nat.lt_of_le_of_lt Nat.and_le_left hb
  apply Nat.eq_of_testBit_eq
  intro i
  rw [Nat.testBit_and]
  have e1 := Nat.testBit_two_pow_mul_add a (i := 8) (b := b) hb i
  have e2 := Nat.testBit_two_pow_mul_add c (i := 8) (b := d) hd i
  have e3 := Nat.testBit_two_pow_mul_add (a &&& c) (i := 8) hbd i
  rw [show (2 : Nat) ^ 8 = 256 from rfl] at e1 e2 e3
  rw [e1, e2, e3]
  by_cases h : i < 8
  · rw [if_pos h, if_pos h, if_pos h, Nat.testBit_and]
  · rw [if_neg h, if_neg h, if_neg h, Nat.testBit_and]
def by1 (b : Nat) : Nat := b - ((b / 2) &&& 85)
def by2 (b : Nat) : Nat := (b &&& 51) + ((b / 4) &&& 51)
theorem by_a : ∀ b, b < 256 → (b / 2) &&& 85 ≤ b ∧ (b / 2) &&& 5592405 = (b / 2) &&& 85 := by decide +kernel
theorem by_b : ∀ b, b < 256 → ∀ e, e < 2 → (b / 2 + 128 * e) &&& 85 = (b / 2) &&& 85 := by decide +kernel
theorem by_c : ∀ b, b < 256 → b &&& 3355443 = b &&& 51 ∧ (b / 4) &&& 3355443 = (b / 4) &&& 51 := by decide +kernel
theorem by_d : ∀ b, b < 256 → ∀ e, e < 4 → (b / 4 + 64 * e) &&& 51 = (b / 4) &&& 51 := by decide +kernel
theorem by_e : ∀ b, b < 256 → by2 (by1 b) ≤ 68 ∧ by2 (by1 b) % 16 ≤ 4 ∧ (by2 (by1 b) + by2 (by1 b) / 16) &&& 986895 = cnt b.testBit 8 := by decide +kernel
theorem by_f : ∀ b, b < 256 → ∀ e, e < 5 → (by2 (by1 b) + by2 (by1 b) / 16 + 16 * e) &&& 15 = cnt b.testBit 8 := by decide +kernel
theorem cnt_16 {a b : Nat} (hb : b < 256) : cnt (256 * a + b).testBit 16 = cnt a.testBit 8 + cnt b.testBit 8 := by
  have e : ∀ i, (256 * a + b).testBit i = if i < 8 then b.testBit i else a.testBit (i - 8) := fun i => Nat.testBit_two_pow_mul_add a (i := 8) (b := b) hb i
  simp only [cnt, e]
  simp
  omega
theorem bc_1 {a b : Nat} (ha : a < 256) (hb : b < 256) : (((256 * a + b) >>> 1) &&& 1431655765 ≤ 256 * a + b) ∧ 256 * a + b - (((256 * a + b) >>> 1) &&& 1431655765) = 256 * by1 a + by1 b := by
  have h1 : ((256 * a + b) >>> 1) &&& 1431655765 = 256 * ((a / 2) &&& 85) + ((b / 2) &&& 85) := by
    rw [Nat.shiftRight_eq_div_pow, show (256 * a + b) / 2 ^ 1 = 256 * (a / 2) + (b / 2 + 128 * (a % 2)) by omega, show 1431655765 = 256 * 5592405 + 85 from rfl, and_split (by omega) (by omega), (by_a a ha).2, by_b b hb (a % 2) (by omega)]
  have h2 := (by_a a ha).1
  have h3 := (by_a b hb).1
  rw [h1]
  unfold by1
  omega
theorem bc_2 {a b : Nat} (ha : a < 256) (hb : b < 256) : ((256 * a + b) &&& 858993459) + (((256 * a + b) >>> 2) &&& 858993459) = 256 * by2 a + by2 b := by
  have h1 : ((256 * a + b) >>> 2) &&& 858993459 = 256 * ((a / 4) &&& 51) + ((b / 4) &&& 51) := by
    rw [Nat.shiftRight_eq_div_pow, show (256 * a + b) / 2 ^ 2 = 256 * (a / 4) + (b / 4 + 64 * (a % 4)) by omega, show 858993459 = 256 * 3355443 + 51 from rfl, and_split (by omega) (by omega), (by_c a ha).2, by_d b hb (a % 4) (by omega)]
  have h2 : (256 * a + b) &&& 858993459 = 256 * (a &&& 51) + (b &&& 51) := by
    rw [show 858993459 = 256 * 3355443 + 51 from rfl, and_split (by omega) (by omega), (by_c a ha).1]
  rw [h1, h2]
  unfold by2
  omega
theorem bc_3 {a b : Nat} (ha : a < 256) (hb : b < 256) : ((256 * by2 (by1 a) + by2 (by1 b)) + ((256 * by2 (by1 a) + by2 (by1 b)) >>> 4)) &&& 252645135 = 256 * cnt a.testBit 8 + cnt b.testBit 8 := by
  obtain ⟨a1, a2, a3⟩ := by_e a ha
  obtain ⟨b1, b2, b3⟩ := by_e b hb
  rw [Nat.shiftRight_eq_div_pow, show (256 * by2 (by1 a) + by2 (by1 b)) + (256 * by2 (by1 a) + by2 (by1 b)) / 2 ^ 4 = 256 * (by2 (by1 a) + by2 (by1 a) / 16) + (by2 (by1 b) + by2 (by1 b) / 16 + 16 * (by2 (by1 a) % 16)) by omega, show 252645135 = 256 * 986895 + 15 from rfl, and_split (by omega) (by omega), a3, by_f b hb _ (by omega)]
theorem by1_lt {b : Nat} (h : b < 256) : by1 b < 256 := by unfold by1; omega
theorem ush_nI {k j : Nat} (hk : k < 65536) (hj : j < 32) : iushr (nI k) (nI j) = nI (k >>> j) := nx_ush hk hj
theorem c_bitCount (N : Nat) {k : Nat} (hk : k < 65536) (m : Mem) : f_J6_bitCount_0f7a4 N (nI k) m = some (nI (cnt k.testBit 16), m) := by
  obtain ⟨a, b, ha, hb, rfl⟩ : ∃ a b, a < 256 ∧ b < 256 ∧ k = 256 * a + b := ⟨k / 256, k % 256, by omega, by omega, by omega⟩
  obtain ⟨p1, p2⟩ := bc_1 ha hb
  have e1 : nI (256 * a + b) - (iushr (nI (256 * a + b)) 1 &&& 1431655765) = nI (256 * by1 a + by1 b) := by
    rw [show (1 : Int32) = nI 1 from rfl, ush_nI hk (by omega), show (1431655765 : Int32) = nI 1431655765 from rfl, nx_and, nI_sub p1, p2]
  have l1 := by1_lt ha
  have l2 := by1_lt hb
  have e2 : (nI (256 * by1 a + by1 b) &&& 858993459) + (iushr (nI (256 * by1 a + by1 b)) 2 &&& 858993459) = nI (256 * by2 (by1 a) + by2 (by1 b)) := by
    rw [show (2 : Int32) = nI 2 from rfl, ush_nI (by omega) (by omega), show (858993459 : Int32) = nI 858993459 from rfl, nx_and, nx_and, nI_add, bc_2 l1 l2]
  have q1 := (by_e a ha).1
  have q2 := (by_e b hb).1
  have e3 : (nI (256 * by2 (by1 a) + by2 (by1 b)) + iushr (nI (256 * by2 (by1 a) + by2 (by1 b))) 4) &&& 252645135 = nI (256 * cnt a.testBit 8 + cnt b.testBit 8) := by
    rw [show (4 : Int32) = nI 4 from rfl, ush_nI (by omega) (by omega), show (252645135 : Int32) = nI 252645135 from rfl, nI_add, nx_and, bc_3 ha hb]
  have c1 := cnt_le a.testBit 8
  have c2 := cnt_le b.testBit 8
  have e4 : nI (256 * cnt a.testBit 8 + cnt b.testBit 8) + iushr (nI (256 * cnt a.testBit 8 + cnt b.testBit 8)) 8 = nI (256 * cnt a.testBit 8 + (cnt a.testBit 8 + cnt b.testBit 8)) := by
    rw [show (8 : Int32) = nI 8 from rfl, ush_nI (by omega) (by omega), nI_add, Nat.shiftRight_eq_div_pow]
    congr 1
    omega
  have e5 : (nI (256 * cnt a.testBit 8 + (cnt a.testBit 8 + cnt b.testBit 8)) + iushr (nI (256 * cnt a.testBit 8 + (cnt a.testBit 8 + cnt b.testBit 8))) 16) &&& 63 = nI (cnt (256 * a + b).testBit 16) := by
    rw [show (16 : Int32) = nI 16 from rfl, ush_nI (by omega) (by omega), nI_add, Nat.shiftRight_eq_div_pow, show (63 : Int32) = nI 63 from rfl, nx_and, cnt_16 hb]
    congr 1
    rw [Nat.div_eq_of_lt (show 256 * cnt a.testBit 8 + (cnt a.testBit 8 + cnt b.testBit 8) < 2 ^ 16 by omega), show 63 = 2 ^ 6 - 1 from rfl, Nat.and_two_pow_sub_one_eq_mod, show 2 ^ 6 = 64 from rfl]
    omega
  unfold f_J6_bitCount_0f7a4
  rw [e1, e2, e3, e4, e5]
theorem c_bitCount' (N : Nat) {x : Int32} (hx : 0 ≤ x.toInt) (hk : vN x < 65536) (m : Mem) : f_J6_bitCount_0f7a4 N x m = some (nI (cnt (vN x).testBit 16), m) := by
  have := c_bitCount N hk m
  rw [← vN_eq hx] at this
  exact this
