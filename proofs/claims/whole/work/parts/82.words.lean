/-! LOAD: the model's tokens -/
def TY (T : Nat → Nat) (len : Nat) (Y : Mem) : Prop := len ≤ 800 ∧ (∀ i, i < len → T i < 256) ∧ gI Y 95 7 = nI len ∧ ∀ i, i < len → gI Y 100 i = nI (T i)
/-- of the model only some slots of the object have changed -/
def FrY (Y Y' : Mem) : Prop := (∀ k, k ≠ 95 → gI Y' k = gI Y k) ∧ (∀ j, ¬ (8 ≤ j ∧ j ≤ 11) → gI Y' 95 j = gI Y 95 j) ∧ (∀ k j, gR Y' k j = gR Y k j) ∧ (∀ k j, gJ Y' k j = gJ Y k j) ∧ (∀ k j, gD Y' k j = gD Y k j)
theorem FrY.refl (X : Mem) : FrY X X := ⟨fun _ _ => rfl, fun _ _ => rfl, fun _ _ => rfl, fun _ _ => rfl, fun _ _ => rfl⟩
theorem FrY.trans {a b c : Mem} (h : FrY a b) (h' : FrY b c) : FrY a c := ⟨fun k hk => (h'.1 k hk).trans (h.1 k hk), fun j hj => (h'.2.1 j hj).trans (h.2.1 j hj), fun k j => (h'.2.2.1 k j).trans (h.2.2.1 k j), fun k j => (h'.2.2.2.1 k j).trans (h.2.2.2.1 k j), fun k j => (h'.2.2.2.2 k j).trans (h.2.2.2.2 k j)⟩
theorem FrY.s (X : Mem) {j : Nat} {v : Int32} (hj : 8 ≤ j ∧ j ≤ 11) : FrY X (sI X 95 j v) := ⟨fun k hk => sI_ne _ _ hk, fun j' hj' => by rw [gI_sI, if_neg (by omega)], fun _ _ => rfl, fun _ _ => rfl, fun _ _ => rfl⟩
theorem TY.keep {T : Nat → Nat} {len : Nat} {X X' : Mem} (h : TY T len X) (e : FrY X X') : TY T len X' := ⟨h.1, h.2.1, by rw [e.2.1 7 (by omega)]; exact h.2.2.1, fun i hi => by rw [e.1 100 (by omega)]; exact h.2.2.2 i hi⟩
theorem kk1 {b : Nat} : kk b = 1 ↔ (b = 32 ∨ b = 10) := by
  unfold kk
  constructor
  · intro h
    split at h
    · omega
    · split at h
      · omega
      · split at h
        · omega
        · split at h <;> omega
  · intro h
    rw [if_pos (by omega)]
theorem kk3i {b : Nat} : kk b = 3 ↔ (48 ≤ b ∧ b ≤ 57) := by
  refine ⟨kk3, fun h => ?_⟩
  unfold kk
  rw [if_neg (by omega), if_neg (by omega), if_pos h]
theorem kk2i {b : Nat} : kk b = 2 ↔ (97 ≤ b ∧ b ≤ 122) := by
  refine ⟨kk2, fun h => ?_⟩
  unfold kk
  rw [if_neg (by omega), if_pos h]
theorem kk4i {b : Nat} : kk b = 4 ↔ b = 59 := by
  unfold kk
  constructor
  · intro h
    split at h
    · omega
    · split at h
      · omega
      · split at h
        · omega
        · split at h
          · assumption
          · omega
  · intro h
    rw [if_neg (by omega), if_neg (by omega), if_neg (by omega), if_pos h]
theorem sk_step {T : Nat → Nat} {len e : Nat} (hel : e < len) : sk T len e = if kk (T e) = 1 then sk T len (e + 1) else e := by
  unfold sk
  rw [show len - e = (len - (e + 1)) + 1 by omega, run_s]
  by_cases hk : kk (T e) = 1
  · rw [if_pos (decide_eq_true hk), if_pos hk]
  · rw [if_neg (fun q => hk (of_decide_eq_true q)), if_neg hk]
theorem rnk_step {T : Nat → Nat} {len k e : Nat} (hel : e < len) : rnk T len k e = if kk (T e) = k then rnk T len k (e + 1) else e := by
  unfold rnk
  rw [show len - e = (len - (e + 1)) + 1 by omega, run_s]
  by_cases hk : kk (T e) = k
  · rw [if_pos (decide_eq_true hk), if_pos hk]
  · rw [if_neg (fun q => hk (of_decide_eq_true q)), if_neg hk]
theorem m_skip {N : Nat} {T : Nat → Nat} {len : Nat} : ∀ d n a Y, TY T len Y → gI Y 95 8 = nI a → a + d = len → d < n → ∃ Y', L_X10_here_0 N n Y = some Y' ∧ FrY Y Y' ∧ (∀ j, j ≠ 8 → gI Y' 95 j = gI Y 95 j) ∧ gI Y' 95 8 = nI (sk T len a) := by
  intro d
  induction d with
  | zero =>
    intro n a Y hT ha hd hn
    have h8 := hT.1
    obtain ⟨n, rfl⟩ : ∃ k, n = k + 1 := ⟨n - 1, by omega⟩
    refine ⟨Y, ?_, FrY.refl Y, fun _ _ => rfl, by rw [ha, sk_self (by omega) (fun h => by omega)]⟩
    show T_X10_here_0 N (L_X10_here_0 N n) _ = _
    unfold T_X10_here_0
    rw [hT.2.2.1, ha, if_pos (nI_le (by omega) (by omega))]
  | succ d ih =>
    intro n a Y hT ha hd hn
    have h8 := hT.1
    obtain ⟨n, rfl⟩ : ∃ k, n = k + 1 := ⟨n - 1, by omega⟩
    have hal : a < len := by omega
    have hb := hT.2.1 a hal
    have u : FrY Y (sI Y 95 8 (nI (a + 1))) := FrY.s Y (by omega)
    obtain ⟨Y', a1, a2, a3, a4⟩ := ih n (a + 1) (sI Y 95 8 (nI (a + 1))) (hT.keep u) (by rw [gI_sI, if_pos ⟨rfl, rfl⟩]) (by omega) (by omega)
    have e1 : (nI (T a) = (32 : Int32)) ↔ T a = 32 := nI_eq (b := 32) (by omega) (by omega)
    have e2 : (nI (T a) = (10 : Int32)) ↔ T a = 10 := nI_eq (b := 10) (by omega) (by omega)
    show ∃ Y', T_X10_here_0 N (L_X10_here_0 N n) _ = _ ∧ _
    unfold T_X10_here_0 B_X10_here_39
    rw [hT.2.2.1, ha, if_neg (nI_ge hal (by omega)), gd_t (inb_nI (by omega) (by omega)), nI_clamp (by omega), hT.2.2.2 a hal, sk_step hal, nI_1, wr_eq]
    by_cases h1 : T a = 32
    · rw [if_pos (e1.mpr h1), if_pos (kk1.mpr (Or.inl h1))]
      exact ⟨Y', a1, u.trans a2, fun j hj => by rw [a3 j hj, gI_sI, if_neg (by omega)], a4⟩
    · rw [if_neg (fun q => h1 (e1.mp q))]
      by_cases h2 : T a = 10
      · rw [if_pos (e2.mpr h2), if_pos (kk1.mpr (Or.inr h2))]
        exact ⟨Y', a1, u.trans a2, fun j hj => by rw [a3 j hj, gI_sI, if_neg (by omega)], a4⟩
      · rw [if_neg (fun q => h2 (e2.mp q)), if_neg (fun q => by have := kk1.mp q; omega)]
        exact ⟨Y, rfl, FrY.refl Y, fun _ _ => rfl, ha⟩
theorem m_here {N : Nat} (hN : 801 < N) {T : Nat → Nat} {len a : Nat} {Y : Mem} (hT : TY T len Y) (ha : gI Y 95 8 = nI a) (hal : a ≤ len) : ∃ Y', f_X10_here N Y = some (if sk T len a = len then -1 else nI (T (sk T len a)), Y') ∧ FrY Y Y' ∧ (∀ j, j ≠ 8 → gI Y' 95 j = gI Y 95 j) ∧ gI Y' 95 8 = nI (sk T len a) := by
  have h8 := hT.1
  obtain ⟨Y', a1, a2, a3, a4⟩ := m_skip (N := N) (len - a) N a Y hT ha (by omega) (by omega)
  obtain ⟨s1, s2, s3, s4⟩ := sk_ok (T := T) hal
  have hT' := hT.keep a2
  refine ⟨Y', ?_, a2, a3, a4⟩
  unfold f_X10_here B_X10_here_52
  rw [l1_of a1, hT'.2.2.1, a4]
  by_cases e : sk T len a = len
  · rw [if_pos (nI_le (by omega) (by omega)), if_pos e]
  · rw [if_neg (nI_ge (by omega) (by omega)), if_neg e, gd_t (inb_nI (by omega) (by omega)), nI_clamp (by omega), hT'.2.2.2 _ (by omega)]
theorem m_in (N : Nat) {b lo hi : Nat} (hb : b < 2 ^ 31) (hlo : lo < 2 ^ 31) (hhi : hi < 2 ^ 31) (m : Mem) : f_X10_in N (nI b) (nI lo) (nI hi) m = some (if lo ≤ b ∧ b ≤ hi then 1 else 0, m) := by
  rw [in_eq]
  by_cases h1 : b < lo
  · rw [if_pos (nI_lt h1 hlo), if_neg (by omega)]
  · rw [if_neg (nI_nlt (by omega) (by omega))]
    by_cases h2 : hi < b
    · rw [if_pos (nI_lt h2 hb), if_neg (by omega)]
    · rw [if_neg (nI_nlt (by omega) (by omega)), if_pos (by omega)]
theorem m_wordEnd {N : Nat} (hN : 801 < N) {T : Nat → Nat} {len s : Nat} {Y : Mem} (hT : TY T len Y) (hs : gI Y 95 8 = nI s) (hsl : s ≤ len) : f_X10_wordEnd N Y = some (nI (rnk T len 2 s), Y) := by
  have h8 := hT.1
  have go : ∀ d n i, i + d = len → d < n → L_X10_wordEnd_5 N n (nI i) Y = some (nI (rnk T len 2 i), Y) := by
    intro d
    induction d with
    | zero =>
      intro n i hd hn
      obtain ⟨n, rfl⟩ : ∃ k, n = k + 1 := ⟨n - 1, by omega⟩
      show T_X10_wordEnd_5 N (L_X10_wordEnd_5 N n) _ _ = _
      unfold T_X10_wordEnd_5
      rw [hT.2.2.1, if_pos (nI_le (by omega) (by omega))]
      unfold rnk
      rw [show len - i = 0 by omega]
      rfl
    | succ d ih =>
      intro n i hd hn
      obtain ⟨n, rfl⟩ : ∃ k, n = k + 1 := ⟨n - 1, by omega⟩
      have hil : i < len := by omega
      have hb := hT.2.1 i hil
      show T_X10_wordEnd_5 N (L_X10_wordEnd_5 N n) _ _ = _
      unfold T_X10_wordEnd_5
      rw [hT.2.2.1, if_neg (nI_ge hil (by omega)), gd_t (inb_nI (by omega) (by omega)), nI_clamp (by omega), hT.2.2.2 i hil, b2_of (show f_X10_in N (nI (T i)) 97 122 Y = _ from m_in N (lo := 97) (hi := 122) (by omega) (by omega) (by omega) Y), rnk_step hil, nI_1]
      by_cases hk : kk (T i) = 2
      · rw [if_pos (kk2i.mp hk), if_neg (by decide), if_pos hk]
        exact ih n (i + 1) (by omega) (by omega)
      · rw [if_neg (fun q => hk (kk2i.mpr q)), if_pos rfl, if_neg hk]
  unfold f_X10_wordEnd
  rw [hs, l2_of (go (len - s) N s (by omega) (by omega))]
/-- a word as a number of its letters -/
def hsh (d : Nat → Nat) : Nat → Nat
  | 0 => 0
  | n + 1 => 27 * hsh d n + d n
theorem hsh_inj {d d' : Nat → Nat} : ∀ n n', (∀ i, i < n → 1 ≤ d i ∧ d i ≤ 26) → (∀ i, i < n' → 1 ≤ d' i ∧ d' i ≤ 26) → hsh d n = hsh d' n' → n = n' ∧ ∀ i, i < n → d i = d' i
  | 0, 0, _, _, _ => ⟨rfl, fun i h => by omega⟩
  | 0, m + 1, _, h', h => by
    have := h' m (by omega)
    change 0 = 27 * hsh d' m + d' m at h
    omega
  | n + 1, 0, h', _, h => by
    have := h' n (by omega)
    change 27 * hsh d n + d n = 0 at h
    omega
  | n + 1, m + 1, h1, h2, h => by
    have a1 := h1 n (by omega)
    have a2 := h2 m (by omega)
    change 27 * hsh d n + d n = 27 * hsh d' m + d' m at h
    obtain ⟨e1, e2⟩ := hsh_inj n m (fun i hi => h1 i (by omega)) (fun i hi => h2 i (by omega)) (by omega)
    refine ⟨by omega, fun i hi => ?_⟩
    by_cases e : i = n
    · rw [e]
      have : d' m = d' n := by rw [e1]
      omega
    · exact e2 i (by omega)
theorem hsh_lt {d : Nat → Nat} : ∀ n, (∀ i, i < n → d i ≤ 26) → hsh d n < 27 ^ n
  | 0, _ => by show 0 < 27 ^ 0; decide
  | n + 1, h => by
    have := hsh_lt n (fun i hi => h i (by omega))
    have := h n (by omega)
    show 27 * hsh d n + d n < 27 ^ (n + 1)
    rw [Nat.pow_succ]
    omega
def lt' (T : Nat → Nat) (s i : Nat) : Nat := T (s + i) - 96
def wd (T : Nat → Nat) (len s : Nat) : Int := if rnk T len 2 s - s ≤ 9 then (hsh (lt' T s) (rnk T len 2 s - s) : Int) else -1
theorem m_word {N : Nat} (hN : 801 < N) {T : Nat → Nat} {len s : Nat} {Y : Mem} (hT : TY T len Y) (hs : gI Y 95 8 = nI s) (hsl : s ≤ len) : f_X10_word N Y = some (Int64.ofInt (wd T len s), Y) ∧ -1 ≤ wd T len s ∧ wd T len s < 27 ^ 9 := by
  have h8 := hT.1
  obtain ⟨r1, r2, r3, r4⟩ := rnk_ok (T := T) (k := 2) hsl
  generalize hL : rnk T len 2 s = e at *
  have hlet : ∀ i, i < e - s → 1 ≤ lt' T s i ∧ lt' T s i ≤ 26 := fun i hi => by
    have := kk2 (r3 (s + i) (by omega) (by omega))
    unfold lt'
    omega
  have hwd : wd T len s = if e - s ≤ 9 then (hsh (lt' T s) (e - s) : Int) else -1 := by
    unfold wd
    rw [hL]
  have hbound : e - s ≤ 9 → hsh (lt' T s) (e - s) < 27 ^ 9 := fun h9 => by
    have h1 := hsh_lt (d := lt' T s) (e - s) (fun i hi => (hlet i hi).2)
    have h2 : 27 ^ (e - s) ≤ 27 ^ 9 := Nat.pow_le_pow_right (by omega) h9
    omega
  refine ⟨?_, ?_, ?_⟩
  · unfold f_X10_word
    rw [b2_of (m_wordEnd hN hT hs hsl), hL, hs]
    by_cases h9 : e - s ≤ 9
    · have go : ∀ d n i, s + i + d = e → d < n → L_X10_word_13 N n (Int64.ofInt (hsh (lt' T s) i : Int)) (nI e) (nI (s + i)) Y = some (Int64.ofInt (hsh (lt' T s) (e - s) : Int), Y) := by
        intro d
        induction d with
        | zero =>
          intro n i hd hn
          obtain ⟨n, rfl⟩ : ∃ k, n = k + 1 := ⟨n - 1, by omega⟩
          show T_X10_word_13 N (L_X10_word_13 N n) _ _ _ _ = _
          unfold T_X10_word_13
          rw [if_pos (nI_le (by omega) (by omega)), show e - s = i by omega]
        | succ d ih =>
          intro n i hd hn
          obtain ⟨n, rfl⟩ : ∃ k, n = k + 1 := ⟨n - 1, by omega⟩
          have hb := hT.2.1 (s + i) (by omega)
          have hl := kk2 (r3 (s + i) (by omega) (by omega))
          show T_X10_word_13 N (L_X10_word_13 N n) _ _ _ _ = _
          unfold T_X10_word_13
          rw [if_neg (nI_ge (by omega) (by omega)), hs, nI_sub r1, if_pos (show nI (e - s) ≤ (9 : Int32) from nI_le (b := 9) h9 (by omega)), gd_t (inb_nI (by omega) (by omega)), nI_clamp (by omega), hT.2.2.2 (s + i) (by omega), nI_64 (by omega), nI_1, show (27 : Int64) = Int64.ofInt 27 from rfl, show (96 : Int64) = Int64.ofInt 96 from rfl, ← Int64.ofInt_mul, ← Int64.ofInt_add, ← Int64.ofInt_sub]
          have ev : (27 * (hsh (lt' T s) i : Int) + (T (s + i) : Int) - 96) = ((hsh (lt' T s) (i + 1) : Nat) : Int) := by
            show _ = ((27 * hsh (lt' T s) i + (T (s + i) - 96) : Nat) : Int)
            omega
          rw [ev]
          exact ih n (i + 1) (by omega) (by omega)
      rw [l2_of (show L_X10_word_13 N N 0 (nI e) (nI s) Y = _ from go (e - s) N 0 (by omega) (by omega)), hwd, if_pos h9]
    · have go : ∀ d n i v, (0 < d ∨ v = -1) → s + i + d = e → d < n → L_X10_word_13 N n v (nI e) (nI (s + i)) Y = some (-1, Y) := by
        intro d
        induction d with
        | zero =>
          intro n i v hv hd hn
          obtain ⟨n, rfl⟩ : ∃ k, n = k + 1 := ⟨n - 1, by omega⟩
          show T_X10_word_13 N (L_X10_word_13 N n) _ _ _ _ = _
          unfold T_X10_word_13
          rw [if_pos (nI_le (by omega) (by omega)), hv.resolve_left (by omega)]
        | succ d ih =>
          intro n i v hv hd hn
          obtain ⟨n, rfl⟩ : ∃ k, n = k + 1 := ⟨n - 1, by omega⟩
          show T_X10_word_13 N (L_X10_word_13 N n) _ _ _ _ = _
          unfold T_X10_word_13
          rw [if_neg (nI_ge (by omega) (by omega)), hs, nI_sub r1, if_neg (show ¬ nI (e - s) ≤ (9 : Int32) from nI_ge (a := 9) (by omega) (by omega)), nI_1]
          exact ih n (i + 1) (-1) (Or.inr rfl) (by omega) (by omega)
      rw [l2_of (show L_X10_word_13 N N 0 (nI e) (nI s) Y = _ from go (e - s) N 0 0 (Or.inl (by omega)) (by omega) (by omega)), hwd, if_neg h9]
      rfl
  · rw [hwd]
    split <;> omega
  · rw [hwd]
    split
    · have := hbound (by assumption)
      have e9 : (27 : Int) ^ 9 = ((27 ^ 9 : Nat) : Int) := by decide
      omega
    · decide
/-- the words of the language -/
def lnS (k : Nat) : Nat := lenST.getD k 0
def chS (k i : Nat) : Nat := vN ((bytST.getD k []).getD i 0)
def isW (T : Nat → Nat) (len s k : Nat) : Bool := decide (rnk T len 2 s - s = lnS k) && decide (∀ i, i < lnS k → T (s + i) = chS k i)
def Wk (k : Nat) : Nat := hsh (fun i => chS k i - 96) (lnS k)
theorem str_tab : ∀ k, k < 10 → 1 ≤ lnS k ∧ lnS k ≤ 9 ∧ strL k = nI (lnS k) ∧ (∀ i, i < lnS k → 97 ≤ chS k i ∧ chS k i ≤ 122 ∧ strC k (nI i) = nI (chS k i) ∧ okS k (nI i) = true) := by decide +kernel
theorem wd_isW {T : Nat → Nat} {len s k : Nat} (hsl : s ≤ len) (hk : k < 10) : wd T len s = (Wk k : Int) ↔ isW T len s k = true := by
  obtain ⟨t1, t2, t3, t4⟩ := str_tab k hk
  obtain ⟨r1, r2, r3, r4⟩ := rnk_ok (T := T) (k := 2) hsl
  unfold isW wd
  rw [Bool.and_eq_true, decide_eq_true_iff, decide_eq_true_iff]
  have hlet : ∀ i, i < rnk T len 2 s - s → 1 ≤ lt' T s i ∧ lt' T s i ≤ 26 := fun i hi => by
    have := kk2 (r3 (s + i) (by omega) (by omega))
    unfold lt'
    omega
  have hc : ∀ i, i < lnS k → 1 ≤ chS k i - 96 ∧ chS k i - 96 ≤ 26 := fun i hi => by
    have := t4 i hi
    omega
  constructor
  · intro h
    by_cases h9 : rnk T len 2 s - s ≤ 9
    · rw [if_pos h9] at h
      obtain ⟨e1, e2⟩ := hsh_inj _ _ hlet hc (show hsh (lt' T s) (rnk T len 2 s - s) = hsh (fun i => chS k i - 96) (lnS k) by unfold Wk at h; omega)
      refine ⟨e1, fun i hi => ?_⟩
      have a1 := e2 i (by omega)
      have a2 := kk2 (r3 (s + i) (by omega) (by omega))
      have a3 := t4 i hi
      change T (s + i) - 96 = chS k i - 96 at a1
      omega
    · rw [if_neg h9] at h
      omega
  · rintro ⟨e1, e2⟩
    rw [if_pos (by omega), e1]
    unfold Wk
    have : ∀ n, n ≤ lnS k → hsh (lt' T s) n = hsh (fun i => chS k i - 96) n := by
      intro n
      induction n with
      | zero => intro _; rfl
      | succ n ih =>
        intro hn
        show 27 * hsh (lt' T s) n + (T (s + n) - 96) = 27 * hsh (fun i => chS k i - 96) n + (chS k n - 96)
        rw [ih (by omega), e2 n (by omega)]
    rw [this _ (Nat.le_refl _)]
theorem byte_let : ∀ b, b < 256 → ∀ c, c < 123 → 97 ≤ c → ((nI b).toInt8.toInt32 = nI c ↔ b = c) := by decide +kernel
theorem c_isWord {N : Nat} (hN : 20 < N) {T : Nat → Nat} {len s k : Nat} {X : Mem} (hT : TX T len X) (hC : CT T len s X) (hk : k < 10) : f_X8_isWord N k X = some (if isW T len s k = true then 1 else 0, X) := by
  obtain ⟨c1, c2, c3, c4, c5, c6⟩ := hC
  obtain ⟨t1, t2, t3, t4⟩ := str_tab k hk
  obtain ⟨r1, r2, r3, r4⟩ := rnk_ok (T := T) (k := 2) c1
  have h8 := hT.1
  have hkl : kdT T len s ≤ 5 := by
    unfold kdT
    have := kk_b (T s)
    split
    · omega
    · split <;> omega
  have noW : (s = len ∨ kk (T s) ≠ 2) → isW T len s k = false := by
    intro h
    have : rnk T len 2 s = s := by
      by_cases e : s = len
      · omega
      · rw [rnk_step (by omega), if_neg (h.resolve_left e)]
    unfold isW
    rw [this, decide_eq_false (by omega), Bool.false_and]
  unfold f_X8_isWord
  rw [c4]
  by_cases hk2 : kdT T len s = 2
  · have hsl : ¬ s = len := fun q => by
      unfold kdT at hk2
      rw [if_pos q] at hk2
      omega
    have hkk : kk (T s) = 2 := by
      unfold kdT at hk2
      rw [if_neg hsl] at hk2
      split at hk2
      · omega
      · exact hk2
    have hen : enT T len s = rnk T len 2 s := by
      unfold enT
      rw [if_neg hsl, if_neg (by omega), if_pos hkk]
    rw [hk2, if_pos (by rfl), gd_t (decide_eq_true (show k < nST from hk)), c5, hen, c3, nI_sub r1, t3]
    by_cases hl : rnk T len 2 s - s = lnS k
    · rw [if_pos (by rw [hl])]
      have go : ∀ d n i, i + d = lnS k → d < n → (∀ j, j < i → T (s + j) = chS k j) → (L_X8_isWord_28 N n k (nI i) X).bind (fun x9 => match x9 with | .inl (m_7) => some ((1 : Int32), m_7) | .inr (m_7) => some ((0 : Int32), m_7)) = some (if isW T len s k = true then 1 else 0, X) := by
        intro d
        induction d with
        | zero =>
          intro n i hd hn hj
          obtain ⟨n, rfl⟩ : ∃ k, n = k + 1 := ⟨n - 1, by omega⟩
          show (T_X8_isWord_28 N (L_X8_isWord_28 N n) _ _ _).bind _ = _
          unfold T_X8_isWord_28
          rw [gd_t (decide_eq_true (show k < nST from hk)), t3, if_pos (nI_le (by omega) (by omega))]
          have : isW T len s k = true := by
            unfold isW
            rw [decide_eq_true hl, decide_eq_true (fun j hj' => hj j (by omega))]
            rfl
          rw [this]
          rfl
        | succ d ih =>
          intro n i hd hn hj
          obtain ⟨n, rfl⟩ : ∃ k, n = k + 1 := ⟨n - 1, by omega⟩
          obtain ⟨u1, u2, u3, u4⟩ := t4 i (by omega)
          have hb := byte_let (T (s + i)) (hT.2.1 _ (by omega)) (chS k i) (by omega) u1
          show (T_X8_isWord_28 N (L_X8_isWord_28 N n) _ _ _).bind _ = _
          unfold T_X8_isWord_28
          rw [gd_t (decide_eq_true (show k < nST from hk)), t3, if_neg (nI_ge (by omega) (by omega)), c3, nI_add, gd_t (inb_nI (by omega) (by omega)), nI_clamp (by omega), gd_t u4, u3, hT.2.2.2 (s + i) (by omega), nI_1]
          by_cases he : T (s + i) = chS k i
          · rw [if_pos (hb.mpr he)]
            exact ih n (i + 1) (by omega) (by omega) (fun j hj' => by
              by_cases e : j = i
              · rw [e]; exact he
              · exact hj j (by omega))
          · rw [if_neg (fun q => he (hb.mp q))]
            have : isW T len s k = false := by
              unfold isW
              rw [decide_eq_false (show ¬ (∀ i, i < lnS k → T (s + i) = chS k i) from fun q => he (q i (by omega))), Bool.and_false]
            rw [this]
            rfl
      exact go (lnS k) N 0 (by omega) (by omega) (fun j hj => by omega)
    · rw [if_neg (fun q => hl ((nI_eq (by omega) (by omega)).mp q))]
      have : isW T len s k = false := by
        unfold isW
        rw [decide_eq_false hl, Bool.false_and]
      rw [this]
      rfl
  · rw [if_neg (show ¬ nI (kdT T len s) = (2 : Int32) from fun q => hk2 ((nI_eq (b := 2) (by omega) (by omega)).mp q)), noW]
    · rfl
    · by_cases e : s = len
      · exact Or.inl e
      · refine Or.inr (fun q => hk2 ?_)
        unfold kdT
        rw [if_neg e, if_neg (by omega)]
        exact q
