/-! THE BEST USE OF A BUDGET: what can be chosen, the list of the best choices -/
/-- cost c and worth w are those of some choice among the offers -/
def At : List (Nat × Nat) → Nat → Nat → Prop
  | [], c, w => c = 0 ∧ w = 0
  | x :: l, c, w => At l c w ∨ ∃ c' w', At l c' w' ∧ c = c' + x.1 ∧ w = w' + x.2
def Par (c w : Nat → Nat) (n : Nat) (l : List (Nat × Nat)) : Prop := 1 ≤ n ∧ (∀ i j, i < j → j < n → c i ≤ c j ∧ w i < w j) ∧ (∀ i, i < n → At l (c i) (w i)) ∧ (∀ x y, At l x y → ∃ i, i < n ∧ c i ≤ x ∧ y ≤ w i)
def upF (f : Nat → Nat) (i v : Nat) : Nat → Nat := fun j => if j = i then v else f j
def kpq (k : Nat) (nw : Nat → Nat) (y : Nat) : Bool := decide (k = 0) || decide (nw (k - 1) < y)
theorem keep_ok {k : Nat} {nc nw : Nat → Nat} {x y : Nat} (hs : ∀ i j, i < j → j < k → nc i ≤ nc j ∧ nw i < nw j) (hl : ∀ i, i < k → nc i ≤ x) :
    (kpq k nw y = true → (∀ i j, i < j → j < k + 1 → upF nc k x i ≤ upF nc k x j ∧ upF nw k y i < upF nw k y j)) ∧ (kpq k nw y = false → ∃ i, i < k ∧ nc i ≤ x ∧ y ≤ nw i) := by
  unfold kpq
  constructor
  · intro h i j hij hj
    simp only [Bool.or_eq_true, decide_eq_true_eq] at h
    unfold upF
    by_cases e : j = k
    · rw [if_pos e, if_pos e, if_neg (by omega), if_neg (by omega)]
      refine ⟨hl i (by omega), ?_⟩
      by_cases e' : i = k - 1
      · rw [e']
        rcases h with h | h
        · omega
        · exact h
      · have := (hs i (k - 1) (by omega) (by omega)).2
        rcases h with h | h <;> omega
    · rw [if_neg e, if_neg e, if_neg (by omega), if_neg (by omega)]
      exact hs i j hij (by omega)
  · intro h
    simp only [Bool.or_eq_false_iff, decide_eq_false_iff_not] at h
    exact ⟨k - 1, by omega, hl _ (by omega), by omega⟩
/-- the merge under way: u of the choices without the offer and v of those with it have been looked at -/
def MI (c w : Nat → Nat) (n a b u v k : Nat) (nc nw : Nat → Nat) : Prop :=
  u ≤ n ∧ v ≤ n ∧ k ≤ u + v ∧ (0 < u + v → 0 < k) ∧ (∀ i j, i < j → j < k → nc i ≤ nc j ∧ nw i < nw j) ∧
  (∀ i, i < k → (∃ x, x < u ∧ nc i = c x ∧ nw i = w x) ∨ (∃ y, y < v ∧ nc i = c y + a ∧ nw i = w y + b)) ∧
  (∀ x, x < u → ∃ i, i < k ∧ nc i ≤ c x ∧ w x ≤ nw i) ∧ (∀ y, y < v → ∃ i, i < k ∧ nc i ≤ c y + a ∧ w y + b ≤ nw i) ∧
  (∀ i, i < k → (u < n → nc i ≤ c u) ∧ (v < n → nc i ≤ c v + a))
theorem MI.u {c w : Nat → Nat} {n a b u v k : Nat} {nc nw : Nat → Nat} (h : MI c w n a b u v k nc nw) (hu : u < n) (hv : v < n → c u ≤ c v + a) (hc : ∀ i j, i < j → j < n → c i ≤ c j) :
    (kpq k nw (w u) = true → MI c w n a b (u + 1) v (k + 1) (upF nc k (c u)) (upF nw k (w u))) ∧ (kpq k nw (w u) = false → MI c w n a b (u + 1) v k nc nw) := by
  obtain ⟨h1, h2, h3, h4, h5, h6, h7, h8, h9⟩ := h
  have hl : ∀ i, i < k → nc i ≤ c u := fun i hi => (h9 i hi).1 hu
  obtain ⟨k1, k2⟩ := keep_ok (x := c u) (y := w u) h5 hl
  have o1 : ∀ i, i < k → upF nc k (c u) i = nc i := fun i hi => if_neg (by omega)
  have o2 : ∀ i, i < k → upF nw k (w u) i = nw i := fun i hi => if_neg (by omega)
  have e1 : upF nc k (c u) k = c u := if_pos rfl
  have e2 : upF nw k (w u) k = w u := if_pos rfl
  constructor
  · intro hq
    refine ⟨by omega, h2, by omega, fun _ => by omega, k1 hq, fun i hi => ?_, fun x hx => ?_, fun y hy => ?_, fun i hi => ?_⟩
    · by_cases e : i = k
      · rw [e, e1, e2]
        exact Or.inl ⟨u, by omega, rfl, rfl⟩
      · rw [o1 i (by omega), o2 i (by omega)]
        rcases h6 i (by omega) with ⟨x, hx, p1, p2⟩ | ⟨y, hy, p1, p2⟩
        · exact Or.inl ⟨x, by omega, p1, p2⟩
        · exact Or.inr ⟨y, hy, p1, p2⟩
    · by_cases e : x = u
      · exact ⟨k, by omega, by rw [e1, e]; exact Nat.le_refl _, by rw [e2, e]; exact Nat.le_refl _⟩
      · obtain ⟨i, hi, p1, p2⟩ := h7 x (by omega)
        exact ⟨i, by omega, by rw [o1 i hi]; exact p1, by rw [o2 i hi]; exact p2⟩
    · obtain ⟨i, hi, p1, p2⟩ := h8 y hy
      exact ⟨i, by omega, by rw [o1 i hi]; exact p1, by rw [o2 i hi]; exact p2⟩
    · by_cases e : i = k
      · rw [e, e1]
        exact ⟨fun hn => hc u (u + 1) (by omega) hn, hv⟩
      · rw [o1 i (by omega)]
        exact ⟨fun hn => Nat.le_trans (hl i (by omega)) (hc u (u + 1) (by omega) hn), (h9 i (by omega)).2⟩
  · intro hq
    obtain ⟨i0, q1, q2, q3⟩ := k2 hq
    refine ⟨by omega, h2, by omega, fun _ => by omega, h5, fun i hi => ?_, fun x hx => ?_, h8, fun i hi => ?_⟩
    · rcases h6 i hi with ⟨x, hx, p1, p2⟩ | h
      · exact Or.inl ⟨x, by omega, p1, p2⟩
      · exact Or.inr h
    · by_cases e : x = u
      · rw [e]
        exact ⟨i0, q1, q2, q3⟩
      · exact h7 x (by omega)
    · exact ⟨fun hn => Nat.le_trans (hl i hi) (hc u (u + 1) (by omega) hn), (h9 i hi).2⟩
theorem MI.v {c w : Nat → Nat} {n a b u v k : Nat} {nc nw : Nat → Nat} (h : MI c w n a b u v k nc nw) (hv : v < n) (hu : u < n → c v + a ≤ c u) (hc : ∀ i j, i < j → j < n → c i ≤ c j) :
    (kpq k nw (w v + b) = true → MI c w n a b u (v + 1) (k + 1) (upF nc k (c v + a)) (upF nw k (w v + b))) ∧ (kpq k nw (w v + b) = false → MI c w n a b u (v + 1) k nc nw) := by
  obtain ⟨h1, h2, h3, h4, h5, h6, h7, h8, h9⟩ := h
  have hl : ∀ i, i < k → nc i ≤ c v + a := fun i hi => (h9 i hi).2 hv
  obtain ⟨k1, k2⟩ := keep_ok (x := c v + a) (y := w v + b) h5 hl
  have o1 : ∀ i, i < k → upF nc k (c v + a) i = nc i := fun i hi => if_neg (by omega)
  have o2 : ∀ i, i < k → upF nw k (w v + b) i = nw i := fun i hi => if_neg (by omega)
  have e1 : upF nc k (c v + a) k = c v + a := if_pos rfl
  have e2 : upF nw k (w v + b) k = w v + b := if_pos rfl
  constructor
  · intro hq
    refine ⟨h1, by omega, by omega, fun _ => by omega, k1 hq, fun i hi => ?_, fun x hx => ?_, fun y hy => ?_, fun i hi => ?_⟩
    · by_cases e : i = k
      · rw [e, e1, e2]
        exact Or.inr ⟨v, by omega, rfl, rfl⟩
      · rw [o1 i (by omega), o2 i (by omega)]
        rcases h6 i (by omega) with ⟨x, hx, p1, p2⟩ | ⟨y, hy, p1, p2⟩
        · exact Or.inl ⟨x, hx, p1, p2⟩
        · exact Or.inr ⟨y, by omega, p1, p2⟩
    · obtain ⟨i, hi, p1, p2⟩ := h7 x hx
      exact ⟨i, by omega, by rw [o1 i hi]; exact p1, by rw [o2 i hi]; exact p2⟩
    · by_cases e : y = v
      · exact ⟨k, by omega, by rw [e1, e]; exact Nat.le_refl _, by rw [e2, e]; exact Nat.le_refl _⟩
      · obtain ⟨i, hi, p1, p2⟩ := h8 y (by omega)
        exact ⟨i, by omega, by rw [o1 i hi]; exact p1, by rw [o2 i hi]; exact p2⟩
    · by_cases e : i = k
      · rw [e, e1]
        exact ⟨hu, fun hn => by have := hc v (v + 1) (by omega) hn; omega⟩
      · rw [o1 i (by omega)]
        exact ⟨(h9 i (by omega)).1, fun hn => by have := hc v (v + 1) (by omega) hn; have := hl i (by omega); omega⟩
  · intro hq
    obtain ⟨i0, q1, q2, q3⟩ := k2 hq
    refine ⟨h1, by omega, by omega, fun _ => by omega, h5, fun i hi => ?_, h7, fun y hy => ?_, fun i hi => ?_⟩
    · rcases h6 i hi with h | ⟨y, hy, p1, p2⟩
      · exact Or.inl h
      · exact Or.inr ⟨y, by omega, p1, p2⟩
    · by_cases e : y = v
      · rw [e]
        exact ⟨i0, q1, q2, q3⟩
      · exact h8 y (by omega)
    · exact ⟨(h9 i hi).1, fun hn => by have := hc v (v + 1) (by omega) hn; have := hl i hi; omega⟩
theorem MI.start (c w : Nat → Nat) (n a b : Nat) (nc nw : Nat → Nat) : MI c w n a b 0 0 0 nc nw := ⟨by omega, by omega, by omega, fun h => by omega, fun i j _ h => by omega, fun i h => by omega, fun i h => by omega, fun i h => by omega, fun i h => by omega⟩
theorem MI.done {c w : Nat → Nat} {n a b k : Nat} {nc nw : Nat → Nat} {l : List (Nat × Nat)} (h : MI c w n a b n n k nc nw) (hp : Par c w n l) : Par nc nw k ((a, b) :: l) := by
  obtain ⟨h1, h2, h3, h4, h5, h6, h7, h8, h9⟩ := h
  obtain ⟨p1, p2, p3, p4⟩ := hp
  refine ⟨by have := h4 (by omega); omega, h5, fun i hi => ?_, fun x y hxy => ?_⟩
  · rcases h6 i hi with ⟨x, hx, e1, e2⟩ | ⟨y, hy, e1, e2⟩
    · rw [e1, e2]
      exact Or.inl (p3 x hx)
    · rw [e1, e2]
      exact Or.inr ⟨_, _, p3 y hy, rfl, rfl⟩
  · rcases hxy with hxy | ⟨c', w', ha, e1, e2⟩
    · obtain ⟨j, hj, q1, q2⟩ := p4 x y hxy
      obtain ⟨i, hi, r1, r2⟩ := h7 j hj
      exact ⟨i, hi, by omega, by omega⟩
    · obtain ⟨j, hj, q1, q2⟩ := p4 c' w' ha
      obtain ⟨i, hi, r1, r2⟩ := h8 j hj
      exact ⟨i, hi, by dsimp only at e1; omega, by dsimp only at e2; omega⟩
theorem Par.nil (c w : Nat → Nat) (h1 : c 0 = 0) (h2 : w 0 = 0) : Par c w 1 [] := by
  refine ⟨by omega, fun i j _ _ => by omega, fun i hi => ?_, fun x y h => ?_⟩
  · obtain rfl : i = 0 := by omega
    exact ⟨h1, h2⟩
  · obtain ⟨rfl, rfl⟩ := h
    exact ⟨0, by omega, by omega, by omega⟩
/-- B is the best worth within the budget -/
def Opt (l : List (Nat × Nat)) (bu B : Nat) : Prop := (∃ c, c ≤ bu ∧ At l c B) ∧ ∀ c w, At l c w → c ≤ bu → w ≤ B
theorem Opt.uniq {l : List (Nat × Nat)} {bu B B' : Nat} (h : Opt l bu B) (h' : Opt l bu B') : B = B' := by
  obtain ⟨⟨c, h1, h2⟩, h3⟩ := h
  obtain ⟨⟨c', h1', h2'⟩, h3'⟩ := h'
  have := h3 c' B' h2' h1'
  have := h3' c B h2 h1
  omega
/-- the offers go to two halves in turn -/
theorem At.split {l1 l2 : List (Nat × Nat)} {x : Nat × Nat} {l : List (Nat × Nat)} (h : ∀ c w, At l c w ↔ ∃ c1 w1 c2 w2, At l1 c1 w1 ∧ At l2 c2 w2 ∧ c = c1 + c2 ∧ w = w1 + w2) :
    (∀ c w, At (x :: l) c w ↔ ∃ c1 w1 c2 w2, At (x :: l1) c1 w1 ∧ At l2 c2 w2 ∧ c = c1 + c2 ∧ w = w1 + w2) ∧ (∀ c w, At (x :: l) c w ↔ ∃ c1 w1 c2 w2, At l1 c1 w1 ∧ At (x :: l2) c2 w2 ∧ c = c1 + c2 ∧ w = w1 + w2) := by
  constructor
  · intro c w
    constructor
    · rintro (ha | ⟨c', w', ha, e1, e2⟩)
      · obtain ⟨c1, w1, c2, w2, a1, a2, a3, a4⟩ := (h c w).mp ha
        exact ⟨c1, w1, c2, w2, Or.inl a1, a2, a3, a4⟩
      · obtain ⟨c1, w1, c2, w2, a1, a2, a3, a4⟩ := (h c' w').mp ha
        exact ⟨c1 + x.1, w1 + x.2, c2, w2, Or.inr ⟨c1, w1, a1, rfl, rfl⟩, a2, by omega, by omega⟩
    · rintro ⟨c1, w1, c2, w2, (a1 | ⟨c', w', a1, e1, e2⟩), a2, a3, a4⟩
      · exact Or.inl ((h c w).mpr ⟨c1, w1, c2, w2, a1, a2, a3, a4⟩)
      · exact Or.inr ⟨c' + c2, w' + w2, (h _ _).mpr ⟨c', w', c2, w2, a1, a2, rfl, rfl⟩, by omega, by omega⟩
  · intro c w
    constructor
    · rintro (ha | ⟨c', w', ha, e1, e2⟩)
      · obtain ⟨c1, w1, c2, w2, a1, a2, a3, a4⟩ := (h c w).mp ha
        exact ⟨c1, w1, c2, w2, a1, Or.inl a2, a3, a4⟩
      · obtain ⟨c1, w1, c2, w2, a1, a2, a3, a4⟩ := (h c' w').mp ha
        exact ⟨c1, w1, c2 + x.1, w2 + x.2, a1, Or.inr ⟨c2, w2, a2, rfl, rfl⟩, by omega, by omega⟩
    · rintro ⟨c1, w1, c2, w2, a1, (a2 | ⟨c', w', a2, e1, e2⟩), a3, a4⟩
      · exact Or.inl ((h c w).mpr ⟨c1, w1, c2, w2, a1, a2, a3, a4⟩)
      · exact Or.inr ⟨c1 + c', w1 + w', (h _ _).mpr ⟨c1, w1, c', w', a1, a2, rfl, rfl⟩, by omega, by omega⟩
theorem At.split0 : ∀ c w, At [] c w ↔ ∃ c1 w1 c2 w2, At [] c1 w1 ∧ At [] c2 w2 ∧ c = c1 + c2 ∧ w = w1 + w2 := by
  intro c w
  constructor
  · rintro ⟨rfl, rfl⟩
    exact ⟨0, 0, 0, 0, ⟨rfl, rfl⟩, ⟨rfl, rfl⟩, rfl, rfl⟩
  · rintro ⟨c1, w1, c2, w2, ⟨rfl, rfl⟩, ⟨rfl, rfl⟩, rfl, rfl⟩
    exact ⟨rfl, rfl⟩
theorem At.zero : ∀ l, At l 0 0
  | [] => ⟨rfl, rfl⟩
  | x :: l => Or.inl (At.zero l)
/-- the two pointers: of the first i of the one list nothing better is left -/
def TP (c1 w1 : Nat → Nat) (n1 : Nat) (c2 w2 : Nat → Nat) (n2 bu i j B : Nat) : Prop := (B = 0 ∨ ∃ x y, x < i ∧ y < n2 ∧ c1 x + c2 y ≤ bu ∧ B = w1 x + w2 y) ∧ (∀ x y, x < i → y < n2 → c1 x + c2 y ≤ bu → w1 x + w2 y ≤ B) ∧ i ≤ n1 ∧ j ≤ n2 ∧ (∀ x y, i ≤ x → x < n1 → j ≤ y → y < n2 → bu < c1 x + c2 y)
theorem TP.down {c1 w1 c2 w2 : Nat → Nat} {n1 n2 bu i j B : Nat} {l1 : List (Nat × Nat)} (p1 : Par c1 w1 n1 l1) (h : TP c1 w1 n1 c2 w2 n2 bu i (j + 1) B) (hc : bu < c1 i + c2 j) : TP c1 w1 n1 c2 w2 n2 bu i j B := by
  obtain ⟨h1, h2, h3, h4, h5⟩ := h
  refine ⟨h1, h2, h3, by omega, fun x y hx hx' hy hy' => ?_⟩
  by_cases e : y = j
  · rw [e]
    by_cases e' : x = i
    · rw [e']
      exact hc
    · have := (p1.2.1 i x (by omega) hx').1
      omega
  · exact h5 x y hx hx' (by omega) hy'
theorem TP.up {c1 w1 c2 w2 : Nat → Nat} {n1 n2 bu i j B : Nat} {l2 : List (Nat × Nat)} (p2 : Par c2 w2 n2 l2) (h : TP c1 w1 n1 c2 w2 n2 bu i (j + 1) B) (hi : i < n1) (hc : c1 i + c2 j ≤ bu) : TP c1 w1 n1 c2 w2 n2 bu (i + 1) (j + 1) (if B < w1 i + w2 j then w1 i + w2 j else B) := by
  obtain ⟨h1, h2, h3, h4, h5⟩ := h
  have hle : ∀ y, y < n2 → c1 i + c2 y ≤ bu → w2 y ≤ w2 j := fun y hy hv => by
    by_cases e : y = j
    · rw [e]; exact Nat.le_refl _
    · by_cases e' : y < j
      · have := (p2.2.1 y j e' (by omega)).2
        omega
      · have := h5 i y (Nat.le_refl _) hi (by omega) hy
        omega
  refine ⟨?_, fun x y hx hy hv => ?_, by omega, h4, fun x y hx hx' hy hy' => h5 x y (by omega) hx' hy hy'⟩
  · by_cases hb : B < w1 i + w2 j
    · rw [if_pos hb]
      exact Or.inr ⟨i, j, by omega, by omega, hc, rfl⟩
    · rw [if_neg hb]
      rcases h1 with h1 | ⟨x, y, a1, a2, a3, a4⟩
      · exact Or.inl h1
      · exact Or.inr ⟨x, y, by omega, a2, a3, a4⟩
  · by_cases e : x = i
    · rw [e] at hv ⊢
      have := hle y hy hv
      split <;> omega
    · have := h2 x y (by omega) hy hv
      split <;> omega
theorem TP.start (c1 w1 : Nat → Nat) (n1 : Nat) (c2 w2 : Nat → Nat) (n2 bu : Nat) : TP c1 w1 n1 c2 w2 n2 bu 0 n2 0 := ⟨Or.inl rfl, fun x y hx => by omega, by omega, by omega, fun x y _ _ h h' => by omega⟩
theorem TP.done {c1 w1 c2 w2 : Nat → Nat} {n1 n2 bu i j B : Nat} {l1 l2 l : List (Nat × Nat)} (p1 : Par c1 w1 n1 l1) (p2 : Par c2 w2 n2 l2) (h : TP c1 w1 n1 c2 w2 n2 bu i j B) (he : i = n1 ∨ j = 0) (hl : ∀ c w, At l c w ↔ ∃ c1 w1 c2 w2, At l1 c1 w1 ∧ At l2 c2 w2 ∧ c = c1 + c2 ∧ w = w1 + w2) : Opt l bu B := by
  obtain ⟨h1, h2, h3, h4, h5⟩ := h
  refine ⟨?_, fun c w ha hc => ?_⟩
  · rcases h1 with rfl | ⟨x, y, a1, a2, a3, a4⟩
    · exact ⟨0, by omega, At.zero l⟩
    · exact ⟨_, a3, (hl _ _).mpr ⟨_, _, _, _, p1.2.2.1 x (by omega), p2.2.2.1 y a2, rfl, a4⟩⟩
  · obtain ⟨x1, y1, x2, y2, a1, a2, a3, a4⟩ := (hl c w).mp ha
    obtain ⟨i1, q1, q2, q3⟩ := p1.2.2.2 x1 y1 a1
    obtain ⟨i2, r1, r2, r3⟩ := p2.2.2.2 x2 y2 a2
    by_cases hi : i1 < i
    · have := h2 i1 i2 hi r1 (by omega)
      omega
    · have := h5 i1 i2 (by omega) q1 (by omega) r1
      omega
/-! the model's sets -/
def ofr (may : Nat → Bool) (ask wo : Nat → Nat) : Nat → List (Nat × Nat)
  | 0 => []
  | k + 1 => if may k then (ask k, wo k) :: ofr may ask wo k else ofr may ask wo k
def mv (may : Nat → Bool) (ask wo : Nat → Nat) (bu S : Nat) : Nat → Nat × Nat
  | 0 => (0, 0)
  | k + 1 => if bu < (mv may ask wo bu S k).1 then mv may ask wo bu S k else if S.testBit k then (if may k then ((mv may ask wo bu S k).1 + ask k, (mv may ask wo bu S k).2 + wo k) else (bu + 1, (mv may ask wo bu S k).2)) else mv may ask wo bu S k
theorem mv_s (may : Nat → Bool) (ask wo : Nat → Nat) (bu S k : Nat) : mv may ask wo bu S (k + 1) = if bu < (mv may ask wo bu S k).1 then mv may ask wo bu S k else if S.testBit k then (if may k then ((mv may ask wo bu S k).1 + ask k, (mv may ask wo bu S k).2 + wo k) else (bu + 1, (mv may ask wo bu S k).2)) else mv may ask wo bu S k := rfl
theorem mv_at {may : Nat → Bool} {ask wo : Nat → Nat} {bu S : Nat} : ∀ k, (mv may ask wo bu S k).1 ≤ bu → At (ofr may ask wo k) (mv may ask wo bu S k).1 (mv may ask wo bu S k).2
  | 0, _ => ⟨rfl, rfl⟩
  | k + 1, h => by
    have ih := mv_at (may := may) (ask := ask) (wo := wo) (bu := bu) (S := S) k
    rw [mv_s] at h ⊢
    unfold ofr
    by_cases hb : bu < (mv may ask wo bu S k).1
    · rw [if_pos hb] at h
      omega
    · rw [if_neg hb] at h ⊢
      have ih := ih (by omega)
      cases ht : S.testBit k
      · rw [if_neg (show ¬ (false = true) by decide)]
        cases may k
        · exact ih
        · exact Or.inl ih
      · rw [ht, if_pos rfl] at h
        rw [if_pos rfl]
        cases hm : may k
        · rw [hm, if_neg (by decide)] at h
          exact absurd h (by show ¬ bu + 1 ≤ bu; omega)
        · exact Or.inr ⟨_, _, ih, rfl, rfl⟩
theorem mv_congr {may : Nat → Bool} {ask wo : Nat → Nat} {bu S S' : Nat} : ∀ k, (∀ j, j < k → S.testBit j = S'.testBit j) → mv may ask wo bu S k = mv may ask wo bu S' k
  | 0, _ => rfl
  | k + 1, h => by
    rw [mv_s, mv_s, mv_congr k (fun j hj => h j (by omega)), h k (by omega)]
theorem At_mv {may : Nat → Bool} {ask wo : Nat → Nat} {bu : Nat} : ∀ k x y, At (ofr may ask wo k) x y → x ≤ bu → ∃ S, S < 2 ^ k ∧ mv may ask wo bu S k = (x, y)
  | 0, x, y, h, _ => by
    obtain ⟨rfl, rfl⟩ := h
    exact ⟨0, by decide, rfl⟩
  | k + 1, x, y, h, hb => by
    have low : ∀ {x y}, At (ofr may ask wo k) x y → x ≤ bu → ∃ S, S < 2 ^ (k + 1) ∧ mv may ask wo bu S (k + 1) = (x, y) := by
      intro x y ha hb
      obtain ⟨S, s1, s2⟩ := At_mv k x y ha hb
      refine ⟨S, by rw [Nat.pow_succ]; omega, ?_⟩
      rw [mv_s, s2, if_neg (by show ¬ bu < x; omega), Nat.testBit_lt_two_pow s1, if_neg (by decide)]
    unfold ofr at h
    cases hm : may k
    · rw [hm, if_neg (by decide)] at h
      exact low h hb
    · rw [hm, if_pos rfl] at h
      rcases h with h | ⟨c', w', ha, e1, e2⟩
      · exact low h hb
      · dsimp only at e1 e2
        obtain ⟨S, s1, s2⟩ := At_mv (bu := bu) k c' w' ha (by omega)
        have e : ∀ j, j < k → (S + 2 ^ k).testBit j = S.testBit j := fun j hj => by
          rw [Nat.add_comm]
          exact Nat.testBit_two_pow_add_gt hj S
        have e' : (S + 2 ^ k).testBit k = true := by
          rw [Nat.add_comm, Nat.testBit_two_pow_add_eq, Nat.testBit_lt_two_pow s1]
          rfl
        refine ⟨S + 2 ^ k, by rw [Nat.pow_succ]; omega, ?_⟩
        rw [mv_s, mv_congr k e, s2, if_neg (show ¬ bu < (c', w').fst from Nat.not_lt.mpr (show c' ≤ bu by omega)), e', if_pos rfl, hm, if_pos rfl, e1, e2]
/-- the best of the sets below n -/
def mb (may : Nat → Bool) (ask wo : Nat → Nat) (bu k : Nat) : Nat → Nat
  | 0 => 0
  | n + 1 => if bu < (mv may ask wo bu n k).1 then mb may ask wo bu k n else if (mv may ask wo bu n k).2 ≤ mb may ask wo bu k n then mb may ask wo bu k n else (mv may ask wo bu n k).2
theorem mb_ok (may : Nat → Bool) (ask wo : Nat → Nat) (bu k : Nat) : ∀ n, (mb may ask wo bu k n = 0 ∨ ∃ S, S < n ∧ (mv may ask wo bu S k).1 ≤ bu ∧ (mv may ask wo bu S k).2 = mb may ask wo bu k n) ∧ (∀ S, S < n → (mv may ask wo bu S k).1 ≤ bu → (mv may ask wo bu S k).2 ≤ mb may ask wo bu k n)
  | 0 => ⟨Or.inl rfl, fun S h => by omega⟩
  | n + 1 => by
    obtain ⟨h1, h2⟩ := mb_ok may ask wo bu k n
    unfold mb
    have lift : (mb may ask wo bu k n = 0 ∨ ∃ S, S < n + 1 ∧ (mv may ask wo bu S k).1 ≤ bu ∧ (mv may ask wo bu S k).2 = mb may ask wo bu k n) := by
      rcases h1 with h1 | ⟨S, a1, a2⟩
      · exact Or.inl h1
      · exact Or.inr ⟨S, by omega, a2⟩
    by_cases hb : bu < (mv may ask wo bu n k).1
    · rw [if_pos hb]
      refine ⟨lift, fun S hS hv => ?_⟩
      by_cases e : S = n
      · rw [e] at hv
        omega
      · exact h2 S (by omega) hv
    · rw [if_neg hb]
      by_cases hl : (mv may ask wo bu n k).2 ≤ mb may ask wo bu k n
      · rw [if_pos hl]
        refine ⟨lift, fun S hS hv => ?_⟩
        by_cases e : S = n
        · rw [e]
          exact hl
        · exact h2 S (by omega) hv
      · rw [if_neg hl]
        refine ⟨Or.inr ⟨n, by omega, by omega, rfl⟩, fun S hS hv => ?_⟩
        by_cases e : S = n
        · rw [e]
          exact Nat.le_refl _
        · have := h2 S (by omega) hv
          omega
theorem mb_opt (may : Nat → Bool) (ask wo : Nat → Nat) (bu k : Nat) : Opt (ofr may ask wo k) bu (mb may ask wo bu k (2 ^ k)) := by
  obtain ⟨h1, h2⟩ := mb_ok may ask wo bu k (2 ^ k)
  refine ⟨?_, fun c w ha hc => ?_⟩
  · rcases h1 with h1 | ⟨S, a1, a2, a3⟩
    · rw [h1]
      exact ⟨0, by omega, At.zero _⟩
    · rw [← a3]
      exact ⟨_, a2, mv_at k a2⟩
  · obtain ⟨S, s1, s2⟩ := At_mv k c w ha hc
    have := h2 S s1 (by rw [s2]; exact hc)
    rw [s2] at this
    exact this
theorem At.len {A W : Nat} : ∀ (l : List (Nat × Nat)) c w, (∀ x, x ∈ l → x.1 ≤ A ∧ x.2 ≤ W) → At l c w → c ≤ A * l.length ∧ w ≤ W * l.length
  | [], c, w, _, h => by
    obtain ⟨rfl, rfl⟩ := h
    exact ⟨Nat.zero_le _, Nat.zero_le _⟩
  | x :: l, c, w, hx, h => by
    have hm := hx x (List.mem_cons_self ..)
    have ih := fun c w => At.len (A := A) (W := W) l c w (fun y hy => hx y (List.mem_cons_of_mem _ hy))
    rw [List.length_cons, Nat.mul_succ, Nat.mul_succ]
    rcases h with h | ⟨c', w', h, e1, e2⟩
    · have := ih c w h
      omega
    · have := ih c' w' h
      omega
