/-! LOAD: the tokens of the text -/
def kk (b : Nat) : Nat := if b = 10 ∨ b = 32 then 1 else if 97 ≤ b ∧ b ≤ 122 then 2 else if 48 ≤ b ∧ b ≤ 57 then 3 else if b = 59 then 4 else 5
/-- on from i over what has P, d at the most -/
def run (P : Nat → Bool) : Nat → Nat → Nat
  | 0, i => i
  | d + 1, i => if P i then run P d (i + 1) else i
theorem run_s (P : Nat → Bool) (d i : Nat) : run P (d + 1) i = if P i then run P d (i + 1) else i := rfl
theorem run_ok (P : Nat → Bool) : ∀ d i, i ≤ run P d i ∧ run P d i ≤ i + d ∧ (∀ j, i ≤ j → j < run P d i → P j = true) ∧ (run P d i < i + d → P (run P d i) = false)
  | 0, i => ⟨Nat.le_refl _, Nat.le_refl _, fun j h1 h2 => by have : run P 0 i = i := rfl; omega, fun h => by have : run P 0 i = i := rfl; omega⟩
  | d + 1, i => by
    obtain ⟨a1, a2, a3, a4⟩ := run_ok P d (i + 1)
    rw [run_s]
    cases hp : P i
    · rw [if_neg (by decide)]
      exact ⟨Nat.le_refl _, by omega, fun j h1 h2 => by omega, fun _ => hp⟩
    · rw [if_pos rfl]
      refine ⟨by omega, by omega, fun j h1 h2 => ?_, fun h => a4 (by omega)⟩
      by_cases e : j = i
      · rw [e]
        exact hp
      · exact a3 j (by omega) h2
theorem run_eq {P : Nat → Bool} {d i j : Nat} (h1 : i ≤ j) (h2 : j ≤ i + d) (h3 : ∀ x, i ≤ x → x < j → P x = true) (h4 : j < i + d → P j = false) : run P d i = j := by
  obtain ⟨a1, a2, a3, a4⟩ := run_ok P d i
  by_cases e1 : run P d i < j
  · have := h3 _ a1 e1
    rw [a4 (by omega)] at this
    cases this
  · by_cases e2 : j < run P d i
    · have := a3 j h1 e2
      rw [h4 (by omega)] at this
      cases this
    · omega
def sk (T : Nat → Nat) (len i : Nat) : Nat := run (fun j => decide (kk (T j) = 1)) (len - i) i
def rnk (T : Nat → Nat) (len k i : Nat) : Nat := run (fun j => decide (kk (T j) = k)) (len - i) i
theorem sk_ok {T : Nat → Nat} {len i : Nat} (h : i ≤ len) : i ≤ sk T len i ∧ sk T len i ≤ len ∧ (∀ j, i ≤ j → j < sk T len i → kk (T j) = 1) ∧ (sk T len i < len → kk (T (sk T len i)) ≠ 1) := by
  obtain ⟨a1, a2, a3, a4⟩ := run_ok (fun j => decide (kk (T j) = 1)) (len - i) i
  exact ⟨a1, by unfold sk; omega, fun j h1 h2 => of_decide_eq_true (a3 j h1 h2), fun hl => of_decide_eq_false (a4 (by unfold sk at hl; omega))⟩
theorem sk_self {T : Nat → Nat} {len s : Nat} (h1 : s ≤ len) (h2 : s < len → kk (T s) ≠ 1) : sk T len s = s := run_eq (Nat.le_refl _) (by omega) (fun x _ _ => by omega) (fun h => decide_eq_false (h2 (by omega)))
theorem sk_sk {T : Nat → Nat} {len i : Nat} (h : i ≤ len) : sk T len (sk T len i) = sk T len i := by
  obtain ⟨a1, a2, a3, a4⟩ := sk_ok (T := T) h
  exact sk_self a2 a4
theorem rnk_ok {T : Nat → Nat} {len k i : Nat} (h : i ≤ len) : i ≤ rnk T len k i ∧ rnk T len k i ≤ len ∧ (∀ j, i ≤ j → j < rnk T len k i → kk (T j) = k) ∧ (rnk T len k i < len → kk (T (rnk T len k i)) ≠ k) := by
  obtain ⟨a1, a2, a3, a4⟩ := run_ok (fun j => decide (kk (T j) = k)) (len - i) i
  exact ⟨a1, by unfold rnk; omega, fun j h1 h2 => of_decide_eq_true (a3 j h1 h2), fun hl => of_decide_eq_false (a4 (by unfold rnk at hl; omega))⟩
/-- the kind, end and value of the token that begins at s -/
def kdT (T : Nat → Nat) (len s : Nat) : Nat := if s = len then 0 else if kk (T s) = 3 ∧ 6 < rnk T len 3 s - s then 5 else kk (T s)
def enT (T : Nat → Nat) (len s : Nat) : Nat := if s = len then s else if kk (T s) = 4 then s + 1 else if kk (T s) = 2 then rnk T len 2 s else if kk (T s) = 3 then rnk T len 3 s else s
def dg (T : Nat → Nat) (s : Nat) : Nat → Nat
  | 0 => 0
  | n + 1 => 10 * dg T s n + (T (s + n) - 48)
theorem kk3 {b : Nat} (h : kk b = 3) : 48 ≤ b ∧ b ≤ 57 := by
  unfold kk at h
  split at h
  · omega
  · split at h
    · omega
    · split at h
      · assumption
      · split at h <;> omega
theorem kk2 {b : Nat} (h : kk b = 2) : 97 ≤ b ∧ b ≤ 122 := by
  unfold kk at h
  split at h
  · omega
  · split at h
    · assumption
    · split at h
      · omega
      · split at h <;> omega
theorem dg_lt {T : Nat → Nat} {s : Nat} : ∀ n, (∀ j, j < n → kk (T (s + j)) = 3) → dg T s n < 10 ^ n
  | 0, _ => by show 0 < 10 ^ 0; decide
  | n + 1, h => by
    have ih := dg_lt (T := T) (s := s) n (fun j hj => h j (by omega))
    have := kk3 (h n (by omega))
    show 10 * dg T s n + (T (s + n) - 48) < 10 ^ (n + 1)
    rw [Nat.pow_succ]
    omega
def TX (T : Nat → Nat) (len : Nat) (X : Mem) : Prop := len ≤ 800 ∧ (∀ i, i < len → T i < 256) ∧ gI X 1 1 = nI len ∧ ∀ i, i < len → gI X 2 i = (nI (T i)).toInt8.toInt32
def FrT (X X' : Mem) : Prop := (∀ k, k ≠ 1 → gI X' k = gI X k) ∧ gI X' 1 1 = gI X 1 1 ∧ (∀ k j, gR X' k j = gR X k j) ∧ (∀ k j, gJ X' k j = gJ X k j) ∧ (∀ k j, gD X' k j = gD X k j)
theorem FrT.refl (X : Mem) : FrT X X := ⟨fun _ _ => rfl, rfl, fun _ _ => rfl, fun _ _ => rfl, fun _ _ => rfl⟩
theorem FrT.trans {a b c : Mem} (h : FrT a b) (h' : FrT b c) : FrT a c := ⟨fun k hk => (h'.1 k hk).trans (h.1 k hk), h'.2.1.trans h.2.1, fun k j => (h'.2.2.1 k j).trans (h.2.2.1 k j), fun k j => (h'.2.2.2.1 k j).trans (h.2.2.2.1 k j), fun k j => (h'.2.2.2.2 k j).trans (h.2.2.2.2 k j)⟩
theorem FrT.s (X : Mem) {j : Nat} {v : Int32} (hj : j ≠ 1) : FrT X (sI X 1 j v) := ⟨fun k hk => sI_ne _ _ hk, by rw [gI_sI, if_neg (by omega)], fun _ _ => rfl, fun _ _ => rfl, fun _ _ => rfl⟩
theorem TX.keep {T : Nat → Nat} {len : Nat} {X X' : Mem} (h : TX T len X) (e : FrT X X') : TX T len X' := ⟨h.1, h.2.1, by rw [e.2.1]; exact h.2.2.1, fun i hi => by rw [e.1 2 (by omega)]; exact h.2.2.2 i hi⟩
def kI (v0 : Int32) : Int32 := if v0 = 10 then 1 else if v0 = 32 then 1 else if v0 < 97 then (if v0 < 48 then (if v0 = 59 then 4 else 5) else if 57 < v0 then (if v0 = 59 then 4 else 5) else 3) else if 122 < v0 then (if v0 < 48 then (if v0 = 59 then 4 else 5) else if 57 < v0 then (if v0 = 59 then 4 else 5) else 3) else 2
theorem kI_b : ∀ b, b < 256 → kI ((nI b).toInt8.toInt32) = nI (kk b) := by decide +kernel
theorem c_kindI (N : Nat) (v0 : Int32) (m : Mem) : f_X8_kindOf N v0 m = some (kI v0, m) := by
  unfold f_X8_kindOf B_X8_kindOf_28 B_X8_kindOf_42 kI
  by_cases h1 : v0 = 10
  · rw [if_pos h1, if_pos h1]
  · rw [if_neg h1, if_neg h1]
    by_cases h2 : v0 = 32
    · rw [if_pos h2, if_pos h2]
    · rw [if_neg h2, if_neg h2]
      have inner : (if v0 < (48 : Int32) then (if v0 = (59 : Int32) then some ((4 : Int32), m) else some ((5 : Int32), m)) else (if (57 : Int32) < v0 then (if v0 = (59 : Int32) then some ((4 : Int32), m) else some ((5 : Int32), m)) else some ((3 : Int32), m))) = some ((if v0 < 48 then (if v0 = 59 then 4 else 5) else if 57 < v0 then (if v0 = 59 then 4 else 5) else 3), m) := by
        by_cases h5 : v0 = 59
        · rw [if_pos h5, if_pos h5]
          split
          · rfl
          · split <;> rfl
        · rw [if_neg h5, if_neg h5]
          split
          · rfl
          · split <;> rfl
      rw [inner]
      by_cases h3 : v0 < 97
      · rw [if_pos h3, if_pos h3]
      · rw [if_neg h3, if_neg h3]
        by_cases h4 : 122 < v0
        · rw [if_pos h4, if_pos h4]
        · rw [if_neg h4, if_neg h4]
theorem c_kind (N : Nat) {b : Nat} (hb : b < 256) (m : Mem) : f_X8_kindOf N ((nI b).toInt8.toInt32) m = some (nI (kk b), m) := by rw [c_kindI, kI_b b hb]
theorem kk_b (b : Nat) : 1 ≤ kk b ∧ kk b ≤ 5 := by
  unfold kk
  repeat' split
  all_goals omega
theorem c_skip {N : Nat} {T : Nat → Nat} {len : Nat} : ∀ d n e X, TX T len X → gI X 1 6 = nI e → e + d = len → d < n → ∃ X', L_X8_nextToken_0 N n X = some X' ∧ FrT X X' ∧ (∀ j, j ≠ 6 → gI X' 1 j = gI X 1 j) ∧ gI X' 1 6 = nI (sk T len e) := by
  intro d
  induction d with
  | zero =>
    intro n e X hT he hd hn
    have h8 := hT.1
    obtain ⟨n, rfl⟩ : ∃ k, n = k + 1 := ⟨n - 1, by omega⟩
    refine ⟨X, ?_, FrT.refl X, fun _ _ => rfl, by rw [he, sk_self (by omega) (fun h => by omega)]⟩
    show T_X8_nextToken_0 N (L_X8_nextToken_0 N n) _ = _
    unfold T_X8_nextToken_0
    rw [hT.2.2.1, he, if_pos (nI_le (by omega) (by omega))]
  | succ d ih =>
    intro n e X hT he hd hn
    have h8 := hT.1
    obtain ⟨n, rfl⟩ : ∃ k, n = k + 1 := ⟨n - 1, by omega⟩
    have hel : e < len := by omega
    have hsk : sk T len e = if kk (T e) = 1 then sk T len (e + 1) else e := by
      unfold sk
      rw [show len - e = (len - (e + 1)) + 1 by omega, run_s]
      by_cases hk : kk (T e) = 1
      · rw [if_pos (decide_eq_true hk), if_pos hk]
      · rw [if_neg (fun q => hk (of_decide_eq_true q)), if_neg hk]
    have hkb := kk_b (T e)
    show ∃ X', T_X8_nextToken_0 N (L_X8_nextToken_0 N n) _ = _ ∧ _
    unfold T_X8_nextToken_0
    rw [hT.2.2.1, he, if_neg (nI_ge hel (by omega)), gd_t (inb_nI (by omega) (by omega)), nI_clamp (by omega), hT.2.2.2 e hel, b2_of (c_kind N (hT.2.1 e hel) X), hsk, he]
    by_cases hk : kk (T e) = 1
    · rw [if_pos (by rw [hk]; rfl), if_pos hk, wr_eq, nI_1]
      have u : FrT X (sI X 1 6 (nI (e + 1))) := FrT.s X (by omega)
      obtain ⟨X', a1, a2, a3, a4⟩ := ih n (e + 1) (sI X 1 6 (nI (e + 1))) (hT.keep u) (by rw [gI_sI, if_pos ⟨rfl, rfl⟩]) (by omega) (by omega)
      exact ⟨X', a1, u.trans a2, fun j hj => by rw [a3 j hj, gI_sI, if_neg (by omega)], a4⟩
    · rw [if_neg (show ¬ nI (kk (T e)) = (1 : Int32) from fun q => hk ((nI_eq (b := 1) (by omega) (by omega)).mp q)), if_neg hk]
      exact ⟨X, rfl, FrT.refl X, fun _ _ => rfl, he⟩
theorem c_runk {N : Nat} {T : Nat → Nat} {len k : Nat} (hkk : k ≤ 5) : ∀ d n e X, TX T len X → gI X 1 6 = nI e → gI X 1 4 = nI k → e + d = len → d < n → ∃ X', L_X8_nextToken_116 N n X = some X' ∧ FrT X X' ∧ (∀ j, j ≠ 6 → gI X' 1 j = gI X 1 j) ∧ gI X' 1 6 = nI (rnk T len k e) := by
  intro d
  induction d with
  | zero =>
    intro n e X hT he h4 hd hn
    have h8 := hT.1
    obtain ⟨n, rfl⟩ : ∃ k, n = k + 1 := ⟨n - 1, by omega⟩
    refine ⟨X, ?_, FrT.refl X, fun _ _ => rfl, by rw [he]; unfold rnk; rw [show len - e = 0 by omega]; rfl⟩
    show T_X8_nextToken_116 N (L_X8_nextToken_116 N n) _ = _
    unfold T_X8_nextToken_116
    rw [hT.2.2.1, he, if_pos (nI_le (by omega) (by omega))]
  | succ d ih =>
    intro n e X hT he h4 hd hn
    have h8 := hT.1
    obtain ⟨n, rfl⟩ : ∃ k, n = k + 1 := ⟨n - 1, by omega⟩
    have hel : e < len := by omega
    have hsk : rnk T len k e = if kk (T e) = k then rnk T len k (e + 1) else e := by
      unfold rnk
      rw [show len - e = (len - (e + 1)) + 1 by omega, run_s]
      by_cases hk : kk (T e) = k
      · rw [if_pos (decide_eq_true hk), if_pos hk]
      · rw [if_neg (fun q => hk (of_decide_eq_true q)), if_neg hk]
    have hkb := kk_b (T e)
    show ∃ X', T_X8_nextToken_116 N (L_X8_nextToken_116 N n) _ = _ ∧ _
    unfold T_X8_nextToken_116
    rw [hT.2.2.1, he, if_neg (nI_ge hel (by omega)), gd_t (inb_nI (by omega) (by omega)), nI_clamp (by omega), hT.2.2.2 e hel, b2_of (c_kind N (hT.2.1 e hel) X), hsk, he, h4]
    by_cases hk : kk (T e) = k
    · rw [if_pos (by rw [hk]), if_pos hk, wr_eq, nI_1]
      have u : FrT X (sI X 1 6 (nI (e + 1))) := FrT.s X (by omega)
      obtain ⟨X', a1, a2, a3, a4⟩ := ih n (e + 1) (sI X 1 6 (nI (e + 1))) (hT.keep u) (by rw [gI_sI, if_pos ⟨rfl, rfl⟩]) (by rw [gI_sI, if_neg (by omega)]; exact h4) (by omega) (by omega)
      exact ⟨X', a1, u.trans a2, fun j hj => by rw [a3 j hj, gI_sI, if_neg (by omega)], a4⟩
    · rw [if_neg (show ¬ nI (kk (T e)) = nI k from fun q => hk ((nI_eq (by omega) (by omega)).mp q)), if_neg hk]
      exact ⟨X, rfl, FrT.refl X, fun _ _ => rfl, he⟩
theorem byte_dig : ∀ b, b < 256 → 48 ≤ b → b ≤ 57 → (nI b).toInt8.toInt32 = nI b := by decide +kernel
theorem c_eval {N : Nat} {T : Nat → Nat} {len s e : Nat} (hse : s ≤ e) (hel : e ≤ len) (hdig : ∀ j, s ≤ j → j < e → kk (T j) = 3) : ∀ d n i X, TX T len X → gI X 1 6 = nI e → gI X 1 7 = nI (dg T s i) → (s + i) + d = e → d < n → ∃ X', L_X8_evaluate_30 N n (nI (s + i)) X = some X' ∧ FrT X X' ∧ (∀ j, j ≠ 7 → gI X' 1 j = gI X 1 j) ∧ gI X' 1 7 = nI (dg T s (e - s)) := by
  intro d
  induction d with
  | zero =>
    intro n i X hT h6 h7 hd hn
    have h8 := hT.1
    obtain ⟨n, rfl⟩ : ∃ k, n = k + 1 := ⟨n - 1, by omega⟩
    refine ⟨X, ?_, FrT.refl X, fun _ _ => rfl, by rw [h7, show e - s = i by omega]⟩
    show T_X8_evaluate_30 N (L_X8_evaluate_30 N n) _ _ = _
    unfold T_X8_evaluate_30
    rw [h6, if_pos (nI_le (by omega) (by omega))]
  | succ d ih =>
    intro n i X hT h6 h7 hd hn
    have h8 := hT.1
    obtain ⟨n, rfl⟩ : ∃ k, n = k + 1 := ⟨n - 1, by omega⟩
    have hk := kk3 (hdig (s + i) (by omega) (by omega))
    have u : FrT X (sI X 1 7 (nI (dg T s (i + 1)))) := FrT.s X (by omega)
    obtain ⟨X', a1, a2, a3, a4⟩ := ih n (i + 1) (sI X 1 7 (nI (dg T s (i + 1)))) (hT.keep u) (by rw [gI_sI, if_neg (by omega)]; exact h6) (by rw [gI_sI, if_pos ⟨rfl, rfl⟩]) (by omega) (by omega)
    refine ⟨X', ?_, u.trans a2, fun j hj => by rw [a3 j hj, gI_sI, if_neg (by omega)], a4⟩
    show T_X8_evaluate_30 N (L_X8_evaluate_30 N n) _ _ = _
    unfold T_X8_evaluate_30
    have ev : ((10 : Int32) * nI (dg T s i) + nI (T (s + i))) - 48 = nI (dg T s (i + 1)) := by
      rw [show (10 : Int32) = nI 10 from rfl, nI_mul, nI_add, show (48 : Int32) = nI 48 from rfl, nI_sub (by omega)]
      show nI (10 * dg T s i + T (s + i) - 48) = nI (10 * dg T s i + (T (s + i) - 48))
      rw [show 10 * dg T s i + T (s + i) - 48 = 10 * dg T s i + (T (s + i) - 48) by omega]
    rw [h6, if_neg (nI_ge (by omega) (by omega)), gd_t (inb_nI (by omega) (by omega)), nI_clamp (by omega), hT.2.2.2 (s + i) (by omega), byte_dig _ (hT.2.1 _ (by omega)) hk.1 hk.2, h7, ev, wr_eq, nI_1]
    exact a1
/-- the class looks at the token that begins at s -/
def CT (T : Nat → Nat) (len s : Nat) (X : Mem) : Prop := s ≤ len ∧ (s < len → kk (T s) ≠ 1) ∧ gI X 1 5 = nI s ∧ gI X 1 4 = nI (kdT T len s) ∧ gI X 1 6 = nI (enT T len s) ∧ (kdT T len s = 3 → gI X 1 7 = nI (dg T s (rnk T len 3 s - s)))
theorem c_next {N : Nat} (hN : 801 < N) {T : Nat → Nat} {len e : Nat} {X : Mem} (hT : TX T len X) (he : e ≤ len) (h6 : gI X 1 6 = nI e) : ∃ X', f_X8_nextToken N X = some X' ∧ FrT X X' ∧ gI X' 1 2 = gI X 1 2 ∧ gI X' 1 3 = gI X 1 3 ∧ CT T len (sk T len e) X' := by
  have h8 := hT.1
  obtain ⟨X1, a1, a2, a3, a4⟩ := c_skip (N := N) (len - e) N e X hT h6 (by omega) (by omega)
  obtain ⟨s1, s2, s3, s4⟩ := sk_ok (T := T) he
  generalize hs : sk T len e = s at *
  have hT1 := hT.keep a2
  -- the start
  have u2 : FrT X1 (sI X1 1 5 (nI s)) := FrT.s X1 (by omega)
  have hT2 := hT1.keep u2
  have b6 : gI (sI X1 1 5 (nI s)) 1 6 = nI s := by rw [gI_sI, if_neg (by omega)]; exact a4
  -- the rest, once the kind is known
  have fin : ∀ k, k = (if s = len then 0 else kk (T s)) → ∃ X', B_X8_nextToken_76 N (nI k) (sI X1 1 5 (nI s)) = some X' ∧ FrT X1 X' ∧ gI X' 1 2 = gI X1 1 2 ∧ gI X' 1 3 = gI X1 1 3 ∧ CT T len s X' := by
    intro k hk
    have u3 : FrT X1 (sI (sI X1 1 5 (nI s)) 1 4 (nI k)) := u2.trans (FrT.s _ (by omega))
    have hT3 := hT1.keep u3
    have c4 : gI (sI (sI X1 1 5 (nI s)) 1 4 (nI k)) 1 4 = nI k := by rw [gI_sI, if_pos ⟨rfl, rfl⟩]
    have c5 : gI (sI (sI X1 1 5 (nI s)) 1 4 (nI k)) 1 5 = nI s := by rw [gI_sI, if_neg (by omega), gI_sI, if_pos ⟨rfl, rfl⟩]
    have c6 : gI (sI (sI X1 1 5 (nI s)) 1 4 (nI k)) 1 6 = nI s := by rw [gI_sI, if_neg (by omega)]; exact b6
    have c2 : gI (sI (sI X1 1 5 (nI s)) 1 4 (nI k)) 1 2 = gI X1 1 2 := by rw [gI_sI, if_neg (by omega), gI_sI, if_neg (by omega)]
    have c3 : gI (sI (sI X1 1 5 (nI s)) 1 4 (nI k)) 1 3 = gI X1 1 3 := by rw [gI_sI, if_neg (by omega), gI_sI, if_neg (by omega)]
    have hkb : k ≤ 5 := by
      have := kk_b (T s)
      rw [hk]
      split <;> omega
    generalize hX3 : sI (sI X1 1 5 (nI s)) 1 4 (nI k) = X3 at *
    unfold B_X8_nextToken_76
    rw [wr_eq, hX3, c4]
    have ne : ∀ a, a ≤ 5 → k ≠ a → ¬ nI k = nI a := fun a ha hne q => hne ((nI_eq (by omega) (by omega)).mp q)
    by_cases k4 : k = 4
    · have hsl : ¬ s = len := fun q => by rw [if_pos q] at hk; omega
      rw [if_neg hsl] at hk
      rw [if_pos (by rw [k4]; rfl), wr_eq, c6, nI_1]
      unfold B_X8_nextToken_159
      have d4 : gI (sI X3 1 6 (nI (s + 1))) 1 4 = nI 4 := by rw [gI_sI, if_neg (by omega), c4, k4]
      rw [d4, if_neg (by decide)]
      refine ⟨_, rfl, u3.trans (FrT.s _ (by omega)), by rw [gI_sI, if_neg (by omega)]; exact c2, by rw [gI_sI, if_neg (by omega)]; exact c3, s2, s4, by rw [gI_sI, if_neg (by omega)]; exact c5, ?_, ?_, ?_⟩
      · rw [d4]
        unfold kdT
        rw [if_neg hsl, if_neg (by omega), ← hk, k4]
      · rw [gI_sI, if_pos ⟨rfl, rfl⟩]
        unfold enT
        rw [if_neg hsl, if_pos (by omega)]
      · unfold kdT
        rw [if_neg hsl, if_neg (by omega)]
        intro q
        omega
    · rw [if_neg (show ¬ nI k = (4 : Int32) from ne 4 (by omega) k4)]
      by_cases k2 : k = 2
      · have hsl : ¬ s = len := fun q => by rw [if_pos q] at hk; omega
        rw [if_neg hsl] at hk
        obtain ⟨X4, d1, d2, d3, d4⟩ := c_runk (N := N) (k := 2) (by omega) (len - s) N s X3 hT3 c6 (by rw [c4, k2]) (by omega) (by omega)
        have e4 : gI X4 1 4 = nI 2 := by rw [d3 4 (by omega), c4, k2]
        rw [if_pos (by rw [k2]; rfl), l1_of d1]
        unfold B_X8_nextToken_159
        rw [e4, if_neg (by decide)]
        refine ⟨X4, rfl, u3.trans d2, by rw [d3 2 (by omega)]; exact c2, by rw [d3 3 (by omega)]; exact c3, s2, s4, by rw [d3 5 (by omega)]; exact c5, ?_, ?_, ?_⟩
        · rw [e4]
          unfold kdT
          rw [if_neg hsl, if_neg (by omega), ← hk, k2]
        · rw [d4]
          unfold enT
          rw [if_neg hsl, if_neg (by omega), if_pos (by omega)]
        · unfold kdT
          rw [if_neg hsl, if_neg (by omega)]
          intro q
          omega
      · rw [if_neg (show ¬ nI k = (2 : Int32) from ne 2 (by omega) k2)]
        by_cases k3 : k = 3
        · have hsl : ¬ s = len := fun q => by rw [if_pos q] at hk; omega
          rw [if_neg hsl] at hk
          obtain ⟨X4, d1, d2, d3, d4⟩ := c_runk (N := N) (k := 3) (by omega) (len - s) N s X3 hT3 c6 (by rw [c4, k3]) (by omega) (by omega)
          have hT4 := hT3.keep d2
          have e4 : gI X4 1 4 = nI 3 := by rw [d3 4 (by omega), c4, k3]
          have e5 : gI X4 1 5 = nI s := by rw [d3 5 (by omega)]; exact c5
          obtain ⟨r1, r2, r3, r4⟩ := rnk_ok (T := T) (k := 3) s2
          rw [if_pos (by rw [k3]; rfl), l1_of d1]
          unfold B_X8_nextToken_159 f_X8_evaluate
          rw [e4, if_pos (by rfl), d4, e5, nI_sub r1]
          by_cases hl : rnk T len 3 s - s ≤ 6
          · rw [if_pos (show nI (rnk T len 3 s - s) ≤ (6 : Int32) from nI_le (b := 6) hl (by omega)), wr_eq]
            have u5 : FrT X4 (sI X4 1 7 0) := FrT.s X4 (by omega)
            obtain ⟨X5, f1, f2, f3, f4⟩ := c_eval (N := N) (T := T) (len := len) (s := s) (e := rnk T len 3 s) r1 r2 r3 (rnk T len 3 s - s) N 0 (sI X4 1 7 0) (hT4.keep u5) (by rw [gI_sI, if_neg (by omega)]; exact d4) (by rw [gI_sI, if_pos ⟨rfl, rfl⟩]; rfl) (by omega) (by omega)
            have g5 : gI (sI X4 1 7 0) 1 5 = nI (s + 0) := by rw [gI_sI, if_neg (by omega)]; exact e5
            rw [g5, l1_of f1]
            have ff : ∀ j, j ≠ 7 → gI X5 1 j = gI X4 1 j := fun j hj => by rw [f3 j hj, gI_sI, if_neg (by omega)]
            refine ⟨X5, rfl, ((u3.trans d2).trans u5).trans f2, by rw [ff 2 (by omega), d3 2 (by omega)]; exact c2, by rw [ff 3 (by omega), d3 3 (by omega)]; exact c3, s2, s4, by rw [ff 5 (by omega)]; exact e5, ?_, ?_, fun _ => f4⟩
            · rw [ff 4 (by omega), e4]
              unfold kdT
              rw [if_neg hsl, if_neg (by omega), ← hk, k3]
            · rw [ff 6 (by omega), d4]
              unfold enT
              rw [if_neg hsl, if_neg (by omega), if_neg (by omega), if_pos (by omega)]
          · rw [if_neg (show ¬ nI (rnk T len 3 s - s) ≤ (6 : Int32) from nI_ge (a := 6) (by omega) (by omega)), wr_eq]
            have hkd : kdT T len s = 5 := by
              unfold kdT
              rw [if_neg hsl, if_pos ⟨by omega, by omega⟩]
            refine ⟨_, rfl, (u3.trans d2).trans (FrT.s _ (by omega)), by rw [gI_sI, if_neg (by omega), d3 2 (by omega)]; exact c2, by rw [gI_sI, if_neg (by omega), d3 3 (by omega)]; exact c3, s2, s4, by rw [gI_sI, if_neg (by omega)]; exact e5, ?_, ?_, fun q => by omega⟩
            · rw [gI_sI, if_pos ⟨rfl, rfl⟩, hkd]
              rfl
            · rw [gI_sI, if_neg (by omega), d4]
              unfold enT
              rw [if_neg hsl, if_neg (by omega), if_neg (by omega), if_pos (by omega)]
        · rw [if_neg (show ¬ nI k = (3 : Int32) from ne 3 (by omega) k3)]
          unfold B_X8_nextToken_159
          rw [c4, if_neg (show ¬ nI k = (3 : Int32) from ne 3 (by omega) k3)]
          have hen : enT T len s = s := by
            unfold enT
            by_cases hsl : s = len
            · rw [if_pos hsl]
            · rw [if_neg hsl] at hk ⊢
              rw [if_neg (by omega), if_neg (by omega), if_neg (by omega)]
          have hkd : kdT T len s = k := by
            unfold kdT
            rw [hk]
            by_cases hsl : s = len
            · rw [if_pos hsl, if_pos hsl]
            · rw [if_neg hsl] at hk ⊢
              rw [if_neg (by omega), if_neg hsl]
          refine ⟨X3, rfl, u3, c2, c3, s2, s4, c5, by rw [c4, hkd], by rw [c6, hen], fun q => by omega⟩
  have out : ∃ X', B_X8_nextToken_40 N X1 = some X' ∧ FrT X1 X' ∧ gI X' 1 2 = gI X1 1 2 ∧ gI X' 1 3 = gI X1 1 3 ∧ CT T len s X' := by
    unfold B_X8_nextToken_40
    rw [a4, wr_eq, hT2.2.2.1, b6]
    by_cases hsl : s = len
    · rw [if_pos (nI_le (by omega) (by omega))]
      exact fin 0 (by rw [if_pos hsl])
    · rw [if_neg (nI_ge (by omega) (by omega)), gd_t (inb_nI (by omega) (by omega)), nI_clamp (by omega), hT2.2.2.2 s (by omega), b2_of (c_kind N (hT2.2.1 s (by omega)) _)]
      exact fin _ (by rw [if_neg hsl])
  obtain ⟨X', o1, o2, o3, o4, o5⟩ := out
  refine ⟨X', ?_, a2.trans o2, by rw [o3, a3 2 (by omega)], by rw [o4, a3 3 (by omega)], o5⟩
  unfold f_X8_nextToken
  rw [l1_of a1]
  exact o1
