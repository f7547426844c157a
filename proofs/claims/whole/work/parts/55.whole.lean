/-! WHOLE NUMBERS in an int; quotients rounded down -/
def zI (z : Int) : Int32 := Int32.ofInt z
theorem zI_nI (n : Nat) : zI (n : Int) = nI n := Int32.ofInt_eq_ofNat
theorem zI_add (a b : Int) : zI a + zI b = zI (a + b) := (Int32.ofInt_add a b).symm
theorem zI_sub (a b : Int) : zI a - zI b = zI (a - b) := (Int32.ofInt_sub a b).symm
theorem zI_mul (a b : Int) : zI a * zI b = zI (a * b) := (Int32.ofInt_mul a b).symm
theorem zI_neg (a : Int) : - zI a = zI (-a) := (Int32.ofInt_neg a).symm
def zB (a : Int) : Prop := -2147483648 ≤ a ∧ a < 2147483648
theorem zI_toInt {a : Int} (h : zB a) : (zI a).toInt = a := Int32.toInt_ofInt_of_le (by unfold zB at h; omega) (by unfold zB at h; omega)
theorem zI_le {a b : Int} (ha : zB a) (hb : zB b) : zI a ≤ zI b ↔ a ≤ b := by rw [Int32.le_iff_toInt_le, zI_toInt ha, zI_toInt hb]
theorem zI_lt {a b : Int} (ha : zB a) (hb : zB b) : zI a < zI b ↔ a < b := by rw [Int32.lt_iff_toInt_lt, zI_toInt ha, zI_toInt hb]
theorem zI_eq {a b : Int} (ha : zB a) (hb : zB b) : zI a = zI b ↔ a = b := ⟨fun h => by have := congrArg Int32.toInt h; rw [zI_toInt ha, zI_toInt hb] at this; exact this, fun h => by rw [h]⟩
theorem zI_64 {a : Int} (h : zB a) : (zI a).toInt64 = Int64.ofInt a := by
  unfold zB at h
  exact Int32.toInt64_ofInt (by have : Int32.minValue.toInt = -2147483648 := rfl; omega) (by have : Int32.maxValue.toInt = 2147483647 := rfl; omega)
theorem zI_0 : (0 : Int32) = zI 0 := rfl
theorem zI_ext {x : Int32} {z : Int} (h : x.toInt = z) : x = zI z := by rw [← h]; exact (Int32.ofInt_toInt x).symm
theorem bt31 (x : Int32) : bt x 31 = decide (x.toInt < 0) := by
  unfold bt
  rw [show x.toInt = x.toBitVec.toInt from rfl, ← BitVec.msb_eq_getLsbD_last, BitVec.msb_eq_toInt]
theorem xor_sign (x y : Int32) : (0 ≤ x ^^^ y) ↔ (x.toInt < 0 ↔ y.toInt < 0) := by
  have h := b_xor x y 31
  rw [bt31, bt31, bt31] at h
  rw [Int32.le_iff_toInt_le, show (0 : Int32).toInt = 0 from rfl]
  by_cases h1 : x.toInt < 0 <;> by_cases h2 : y.toInt < 0 <;> by_cases h3 : (x ^^^ y).toInt < 0 <;> simp [h1, h2, h3] at h ⊢ <;> omega
theorem tdiv_neg {a b : Int} (ha : a < 0) (hb : 0 < b) : (b * (a.tdiv b) = a → a / b = a.tdiv b) ∧ (¬ b * (a.tdiv b) = a → a / b = a.tdiv b - 1) := by
  have e := Int.mul_tdiv_add_tmod a b
  have r1 := Int.lt_tmod_of_pos a hb
  have r2 : a.tmod b ≤ 0 := by
    have := Int.tmod_nonneg b (show 0 ≤ -a by omega)
    rw [Int.neg_tmod] at this
    omega
  refine ⟨fun h => ?_, fun h => ?_⟩
  · have h' : a = b * (a.tdiv b) := h.symm
    calc a / b = (b * (a.tdiv b)) / b := by rw [← h']
      _ = a.tdiv b := Int.mul_ediv_cancel_left _ (by omega)
  · have e2 : b * (a.tdiv b - 1) = b * a.tdiv b - b := by rw [Int.mul_sub, Int.mul_one]
    rw [Int.ediv_eq_iff_of_pos hb]
    rw [Int.sub_mul, Int.mul_comm _ b, Int.one_mul]
    constructor
    · omega
    · omega
theorem fl_q {a : Int} {b : Nat} (ha : zB a) (h0 : 0 < b) (hb : b < 2 ^ 31) : zI a / nI b = zI (a.tdiv b) := by
  apply zI_ext
  rw [Int32.toInt_div_of_ne_right _ _ (by
    intro h
    have := congrArg Int32.toInt h
    rw [nI_toInt hb] at this
    have e1 : (-1 : Int32).toInt = -1 := rfl
    omega), zI_toInt ha, nI_toInt hb]
theorem tdiv_b {a : Int} {b : Nat} (ha : zB a) (h0 : 0 < b) : zB (a.tdiv b) := by
  unfold zB at *
  have h1 : (a.tdiv b).natAbs = a.natAbs / (b : Int).natAbs := Int.natAbs_tdiv a b
  have h2 : a.natAbs / (b : Int).natAbs ≤ a.natAbs := Nat.div_le_self _ _
  rw [← h1] at h2
  by_cases hs : 0 ≤ a
  · have := Int.tdiv_nonneg hs (show (0 : Int) ≤ b by omega)
    omega
  · have h3 := Int.tdiv_nonneg (show 0 ≤ -a by omega) (show (0 : Int) ≤ b by omega)
    rw [Int.neg_tdiv] at h3
    omega
theorem fl_c {a : Int} {b : Nat} (ha : zB a) (h0 : 0 < b) (hb : b < 2 ^ 31) {α : Type} (f : Int32 → α) : (if 0 ≤ (zI a ^^^ nI b) then f (zI a / nI b) else if (zI a / nI b) * nI b = zI a then f (zI a / nI b) else f ((zI a / nI b) - 1)) = f (zI (a / b)) := by
  have hx := xor_sign (zI a) (nI b)
  rw [zI_toInt ha, nI_toInt hb] at hx
  rw [fl_q ha h0 hb]
  have hq := tdiv_b ha h0
  by_cases hs : 0 ≤ a
  · rw [if_pos (hx.mpr (by omega)), Int.tdiv_eq_ediv_of_nonneg hs]
  · rw [if_neg (fun h => by have := hx.mp h; omega), ← zI_nI b, zI_mul]
    obtain ⟨t1, t2⟩ := tdiv_neg (a := a) (b := b) (by omega) (by omega)
    have e := Int.mul_tdiv_add_tmod a b
    have r1 := Int.lt_tmod_of_pos a (show (0 : Int) < b by omega)
    have r2 : a.tmod b ≤ 0 := by
      have := Int.tmod_nonneg (b : Int) (show 0 ≤ -a by omega)
      rw [Int.neg_tmod] at this
      omega
    have hm : zB (a.tdiv b * b) := by
      unfold zB at *
      rw [Int.mul_comm]
      omega
    by_cases he : (b : Int) * a.tdiv b = a
    · rw [if_pos (by rw [Int.mul_comm, he]), t1 he]
    · rw [if_neg (fun h => he (by rw [Int.mul_comm]; exact (zI_eq hm ha).mp h)), t2 he, show (1 : Int32) = zI 1 from rfl, zI_sub]
def zL (a : Int) : Prop := -4611686018427387904 ≤ a ∧ a ≤ 4611686018427387904
theorem lI_toInt {a : Int} (h : zL a) : (Int64.ofInt a).toInt = a := Int64.toInt_ofInt_of_le (by unfold zL at h; omega) (by unfold zL at h; omega)
theorem lI_ext {x : Int64} {z : Int} (h : x.toInt = z) : x = Int64.ofInt z := by rw [← h]; exact (Int64.ofInt_toInt x).symm
theorem lI_32 (a : Int) : (Int64.ofInt a).toInt32 = zI a := Int64.toInt32_ofInt
theorem lg_0 (x : Int64) : (0 ≤ lg_cmp x 0) ↔ 0 ≤ x := by
  unfold lg_cmp
  rw [Int64.le_iff_toInt_le, show (0 : Int64).toInt = 0 from rfl]
  have h0 : (0 : Int64) < x ↔ 0 < x.toInt := Int64.lt_iff_toInt_lt
  by_cases h1 : 0 < x
  · have := h0.mp h1
    rw [if_pos h1]
    exact ⟨fun _ => by omega, fun _ => by decide⟩
  · have : ¬ 0 < x.toInt := fun h => h1 (h0.mpr h)
    rw [if_neg h1]
    by_cases h2 : x = 0
    · rw [if_pos h2, h2]
      exact ⟨fun _ => by decide, fun _ => by decide⟩
    · rw [if_neg h2]
      refine ⟨fun h => absurd h (by decide), fun h => ?_⟩
      exact absurd (Int64.toInt_inj.mp (show x.toInt = (0 : Int64).toInt by rw [show (0 : Int64).toInt = 0 from rfl]; omega)) h2
theorem fl_m {a : Int} {b : Nat} (ha : zL a) (h0 : 0 < b) (hb : b < 2 ^ 31) {α : Type} (f : Int32 → α) : (if 0 ≤ lg_cmp (Int64.ofInt a - Int64.ofInt a / Int64.ofInt b * Int64.ofInt b) 0 then f (Int64.ofInt a / Int64.ofInt b).toInt32 else f (Int64.ofInt a / Int64.ofInt b - 1).toInt32) = f (zI (a / b)) := by
  have hbL : zL b := by unfold zL; omega
  have hq : Int64.ofInt a / Int64.ofInt b = Int64.ofInt (a.tdiv b) := by
    apply lI_ext
    rw [Int64.toInt_div_of_ne_right _ _ (by
      intro h
      have := congrArg Int64.toInt h
      rw [lI_toInt hbL] at this
      have e1 : (-1 : Int64).toInt = -1 := rfl
      omega), lI_toInt ha, lI_toInt hbL]
  have e := Int.mul_tdiv_add_tmod a b
  have r1 := Int.lt_tmod_of_pos a (show (0 : Int) < b by omega)
  rw [hq, ← Int64.ofInt_mul, ← Int64.ofInt_sub, show a - a.tdiv b * b = a.tmod b by rw [Int.mul_comm]; omega]
  have r3 : a.tmod b < b := Int.tmod_lt_of_pos a (by omega)
  have hr : zL (a.tmod b) := by unfold zL at *; omega
  have hc := lg_0 (Int64.ofInt (a.tmod b))
  rw [Int64.le_iff_toInt_le, lI_toInt hr, show (0 : Int64).toInt = 0 from rfl] at hc
  by_cases hs : 0 ≤ a
  · rw [if_pos (hc.mpr (Int.tmod_nonneg _ hs)), Int.tdiv_eq_ediv_of_nonneg hs, lI_32]
  · obtain ⟨t1, t2⟩ := tdiv_neg (a := a) (b := b) (by omega) (by omega)
    have r2 : a.tmod b ≤ 0 := by
      have := Int.tmod_nonneg (b : Int) (show 0 ≤ -a by omega)
      rw [Int.neg_tmod] at this
      omega
    by_cases he : (b : Int) * a.tdiv b = a
    · rw [if_pos (hc.mpr (by omega)), t1 he, lI_32]
    · rw [if_neg (fun h => by have := hc.mp h; omega), t2 he, show (1 : Int64) = Int64.ofInt 1 from rfl, ← Int64.ofInt_sub, lI_32]
