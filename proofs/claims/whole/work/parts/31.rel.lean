/-! THE RELATION between the class's memory and the model's, between two calls of the law -/
/-- a number of the model as a Nat -/
def vN (x : Int32) : Nat := x.toInt.toNat
theorem vN_nI {n : Nat} (h : n < 2 ^ 31) : vN (nI n) = n := by
  unfold vN
  rw [nI_toInt h]
  rfl
theorem vN_eq {x : Int32} (h : 0 ≤ x.toInt) : x = nI (vN x) := i32_of (by unfold vN; omega)
theorem vN_lt (x : Int32) : vN x < 2 ^ 31 := by
  unfold vN
  have := Int32.toInt_lt x
  omega
/-- what the text tells: the model's row 'told' -/
def ToldOK (t : Nat → Int32) : Prop :=
  (∀ k, k < 151 → 0 ≤ (t k).toInt) ∧ vN (t 0) ≤ 4 ∧ vN (t 1) ≤ 12 ∧ vN (t 2) ≤ 16 ∧ (1 ≤ vN (t 3) ∧ vN (t 3) ≤ 4) ∧ vN (t 4) ≤ 100000 ∧ vN (t 5) ≤ 100000 ∧ vN (t 6) ≤ 99 ∧
  (∀ i, i < vN (t 0) → vN (t (7 + i)) ≤ 100000) ∧
  (∀ r, r < vN (t 1) → vN (t (11 + 4 * r)) < vN (t 0) ∧ vN (t (12 + 4 * r)) ≤ 9 ∧ (1 ≤ vN (t (13 + 4 * r)) ∧ vN (t (13 + 4 * r)) ≤ 10) ∧ vN (t (14 + 4 * r)) < 256) ∧
  (∀ p, p < vN (t 2) → vN (t (59 + 5 * p)) < vN (t 0) ∧ vN (t (60 + 5 * p)) ≤ 9 ∧ vN (t (61 + 5 * p)) ≤ 7 ∧ (1 ≤ vN (t (62 + 5 * p)) ∧ vN (t (62 + 5 * p)) ≤ 9999) ∧ (1 ≤ vN (t (63 + 5 * p)) ∧ vN (t (63 + 5 * p)) ≤ vN (t (62 + 5 * p)))) ∧
  (∀ r, r < 12 → vN (t (139 + r)) < 65536 ∧ (vN (t 1) ≤ r → t (139 + r) = 0))
/-- a Setup (its fields, its rows) says what 'told' says -/
def SetupOK (t : Nat → Int32) (f bu rp rh rc ro co pp ph pt pa pl : Nat → Int32) : Prop :=
  f 0 = t 0 ∧ f 1 = t 1 ∧ f 2 = t 2 ∧ f 14 = t 3 ∧ f 16 = t 4 ∧ f 17 = t 5 ∧ f 15 = t 6 ∧ (∀ i, i < vN (t 0) → bu i = t (7 + i)) ∧
  (∀ r, r < vN (t 1) → rp r = t (11 + 4 * r) ∧ rh r = t (12 + 4 * r) ∧ rc r = t (13 + 4 * r) ∧ ro r = t (14 + 4 * r)) ∧ (∀ r, r < 12 → co r = t (139 + r)) ∧
  (∀ p, p < vN (t 2) → pp p = t (59 + 5 * p) ∧ ph p = t (60 + 5 * p) ∧ pt p = t (61 + 5 * p) ∧ pa p = t (62 + 5 * p) ∧ pl p = t (63 + 5 * p))
def SetupAt (m : Mem) (s : Nat) : Prop := SetupOK (gI m 96) (gI m s) (gI m (s + 1)) (gI m (s + 2)) (gI m (s + 3)) (gI m (s + 4)) (gI m (s + 5)) (gI m (s + 6)) (gI m (s + 7)) (gI m (s + 8)) (gI m (s + 9)) (gI m (s + 10)) (gI m (s + 11))
/-- a score of the class: none 0, a review without a score -1; b: the model has the review, v: the model's score -/
def scR (c : Int32) (b : Bool) (v : Int32) : Prop := (b = true ↔ ¬ c = 0) ∧ v = (if 0 < c then c else 0) ∧ -1 ≤ c.toInt ∧ c.toInt ≤ 100
/-- a State (its numbers, its rows) holds what a stretch W of the model's holds -/
def RelT (t : Nat → Int32) (gr li : Int32) (sc de W : Nat → Int32) : Prop :=
  (∀ i, i < 218 → 0 ≤ (W i).toInt) ∧ li = W 0 ∧ vN (W 0) ≤ 100000 ∧ gr = W 1 ∧ vN (W 1) < 65536 ∧
  (∀ r, r < 12 → de r = W (2 + r) ∧ vN (W (2 + r)) < 65536 ∧ (vN (t 1) ≤ r → W (2 + r) = 0)) ∧
  (∀ r, r < 12 → vN (W (14 + r)) < 65536) ∧
  (∀ r, r < 12 → ∀ p, p < 16 → scR (sc (16 * r + p)) ((vN (W (14 + r))).testBit p) (W (26 + (16 * r + p))) ∧ ((vN (t 1) ≤ r ∨ vN (t 2) ≤ p) → sc (16 * r + p) = 0))
def StateAt (m : Mem) (k c o : Nat) : Prop := RelT (gI m 96) (gI m k 2) (gI m k 3) (gI m (k + 1)) (gI m (k + 2)) (fun i => gI m c (o + i))
def HistOK (m : Mem) : Prop := ∃ h nx : Nat, h ≤ 10 ∧ nx < 10 ∧ gI m 6 2 = nI h ∧ gI m 95 5 = nI h ∧ gI m 6 1 = nI nx ∧ ∀ i, i < h → StateAt m (8 + 3 * ((nx + 9 - i) % 10)) 99 (218 * (h - 1 - i))
def TextOK (m : Mem) : Prop := ∃ len : Nat, len ≤ 800 ∧ gI m 1 1 = nI len ∧ gI m 95 7 = nI len ∧ ∀ i, i < len → (0 ≤ (gI m 100 i).toInt ∧ (gI m 100 i).toInt < 256 ∧ gI m 2 i = (gI m 100 i).toInt8.toInt32)
def ErrOK (m : Mem) : Prop := gI m 1 2 = gI m 95 9 ∧ gI m 1 3 = gI m 95 10
def RefOK (m : Mem) : Prop := (gR m 0 7 = 71 ∧ gR m 0 8 = 83) ∨ (gR m 0 7 = 83 ∧ gR m 0 8 = 71)
def ChAt (m : Mem) (c : Nat) : Prop := (gR m c 0 = c + 1 ∧ gR m c 1 = c + 2 ∧ gR m c 3 = c + 3 ∧ gR m c 4 = c + 4) ∨ (gR m c 0 = c + 3 ∧ gR m c 1 = c + 4 ∧ gR m c 3 = c + 1 ∧ gR m c 4 = c + 2)
def ChOK (m : Mem) : Prop := ChAt m 61 ∧ ChAt m 66
def Rel (m : Mem) : Prop := RefOK m ∧ ChOK m ∧ TextOK m ∧ ErrOK m ∧ ToldOK (gI m 96) ∧ SetupAt m (gR m 0 7) ∧ StateAt m 3 98 0 ∧ HistOK m
/-- nothing that the relation speaks of has changed -/
def Core (m m' : Mem) : Prop := (∀ k, (k = 2 ∨ (3 ≤ k ∧ k ≤ 6) ∨ (8 ≤ k ∧ k ≤ 37) ∨ (71 ≤ k ∧ k ≤ 94) ∨ k = 96 ∨ (98 ≤ k ∧ k ≤ 100)) → gI m' k = gI m k) ∧
  (∀ j, (j = 1 ∨ j = 2 ∨ j = 3) → gI m' 1 j = gI m 1 j) ∧ (∀ j, (j = 5 ∨ j = 7 ∨ j = 9 ∨ j = 10) → gI m' 95 j = gI m 95 j) ∧ gR m' 0 7 = gR m 0 7 ∧ gR m' 0 8 = gR m 0 8 ∧ (ChOK m → ChOK m')
theorem Core.rfl' (m : Mem) : Core m m := ⟨fun _ _ => rfl, fun _ _ => rfl, fun _ _ => rfl, rfl, rfl, id⟩
theorem Core.trans {a b c : Mem} (h1 : Core a b) (h2 : Core b c) : Core a c :=
  ⟨fun k hk => (h2.1 k hk).trans (h1.1 k hk), fun j hj => (h2.2.1 j hj).trans (h1.2.1 j hj), fun j hj => (h2.2.2.1 j hj).trans (h1.2.2.1 j hj), h2.2.2.2.1.trans h1.2.2.2.1, h2.2.2.2.2.1.trans h1.2.2.2.2.1, fun h => h2.2.2.2.2.2 (h1.2.2.2.2.2 h)⟩
theorem RefOK.s {m : Mem} (h : RefOK m) : gR m 0 7 = 71 ∨ gR m 0 7 = 83 := h.elim (fun h => Or.inl h.1) (fun h => Or.inr h.1)
theorem Rel.core {m m' : Mem} (h : Rel m) (c : Core m m') : Rel m' := by
  obtain ⟨h1, h2, h3, h4, h5, h6, h7, h8⟩ := h
  obtain ⟨c1, c2, c3, c4, c5, c6⟩ := c
  have e96 : gI m' 96 = gI m 96 := c1 96 (by omega)
  refine ⟨?_, c6 h2, ?_, ?_, ?_, ?_, ?_, ?_⟩
  · unfold RefOK
    rw [c4, c5]
    exact h1
  · obtain ⟨len, a1, a2, a3, a4⟩ := h3
    refine ⟨len, a1, by rw [c2 1 (by omega)]; exact a2, by rw [c3 7 (by omega)]; exact a3, fun i hi => ?_⟩
    rw [c1 100 (by omega), c1 2 (by omega)]
    exact a4 i hi
  · unfold ErrOK
    rw [c2 2 (by omega), c2 3 (by omega), c3 9 (by omega), c3 10 (by omega)]
    exact h4
  · rw [e96]
    exact h5
  · have hs := h1.s
    unfold SetupAt
    rw [c4, e96, c1 (gR m 0 7) (by omega), c1 (gR m 0 7 + 1) (by omega), c1 (gR m 0 7 + 2) (by omega), c1 (gR m 0 7 + 3) (by omega), c1 (gR m 0 7 + 4) (by omega), c1 (gR m 0 7 + 5) (by omega), c1 (gR m 0 7 + 6) (by omega), c1 (gR m 0 7 + 7) (by omega), c1 (gR m 0 7 + 8) (by omega), c1 (gR m 0 7 + 9) (by omega), c1 (gR m 0 7 + 10) (by omega), c1 (gR m 0 7 + 11) (by omega)]
    exact h6
  · unfold StateAt
    rw [e96, c1 3 (by omega), c1 4 (by omega), c1 5 (by omega), c1 98 (by omega)]
    exact h7
  · obtain ⟨hh, nx, a1, a2, a3, a4, a5, a6⟩ := h8
    refine ⟨hh, nx, a1, a2, by rw [c1 6 (by omega)]; exact a3, by rw [c3 5 (by omega)]; exact a4, by rw [c1 6 (by omega)]; exact a5, fun i hi => ?_⟩
    have := a6 i hi
    unfold StateAt at this ⊢
    rw [e96, c1 (8 + 3 * ((nx + 9 - i) % 10)) (by omega), c1 (8 + 3 * ((nx + 9 - i) % 10) + 1) (by omega), c1 (8 + 3 * ((nx + 9 - i) % 10) + 2) (by omega), c1 99 (by omega)]
    exact this
/-- one call of the law: the class's answer and the model's -/
def OpI (fl fm : Mem → Option (Int32 × Mem)) (m : Mem) : Prop := ∃ (r : Int32) (m1 : Mem) (b : Int32) (m2 : Mem), fl m = some (r, m1) ∧ fm m1 = some (b, m2) ∧ gI m2 95 0 = r ∧ (r = 0 → gJ m2 108 0 = b.toInt64) ∧ Rel m2
def OpZ (fl fm : Mem → Option (Int32 × Mem)) (m : Mem) : Prop := ∃ (r : Int32) (m1 : Mem) (b : Int32) (m2 : Mem), fl m = some (r, m1) ∧ fm m1 = some (b, m2) ∧ gI m2 95 0 = r ∧ (r = 0 → gJ m2 108 0 = if b = 0 then 0 else 1) ∧ Rel m2
def OpD (fl : Mem → Option (Int32 × Mem)) (fm : Mem → Option (UInt64 × Mem)) (m : Mem) : Prop := ∃ (r : Int32) (m1 : Mem) (b : UInt64) (m2 : Mem), fl m = some (r, m1) ∧ fm m1 = some (b, m2) ∧ gI m2 95 0 = r ∧ (r = 0 → Op.cmpValue (FP.dcmp (gD m2 109 0) b) .l = 0) ∧ Rel m2
def OpE (fl fm : Mem → Option (Int32 × Mem)) (m : Mem) : Prop := ∃ (r : Int32) (m1 m2 : Mem), fl m = some (r, m1) ∧ fm m1 = some (r, m2) ∧ Rel m2
