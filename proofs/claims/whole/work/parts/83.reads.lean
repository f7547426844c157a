/-! LOAD: class and model read alike -/
def BadR (X Y : Mem) : Prop := ¬ gI X 1 2 = 0 ∧ gI X 1 2 = gI Y 95 9 ∧ gI X 1 3 = gI Y 95 10 ∧ gI Y 95 11 = 1 ∧ gI X 1 4 = 5
def GoodR (T : Nat → Nat) (len s : Nat) (X Y : Mem) : Prop := CT T len s X ∧ gI X 1 2 = 0 ∧ gI Y 95 9 = 0 ∧ gI X 1 3 = gI Y 95 10 ∧ gI Y 95 11 = 0 ∧ ∃ a, a ≤ len ∧ gI Y 95 8 = nI a ∧ sk T len a = s
theorem c_failB (N : Nat) {v : Int32} {X Y : Mem} (h : BadR X Y) : ∃ X', f_X8_fail N v X = some X' ∧ FrT X X' ∧ BadR X' Y := by
  obtain ⟨h1, h2, h3, h4, h5⟩ := h
  refine ⟨sI X 1 4 5, ?_, FrT.s X (by omega), ?_, ?_, ?_, h4, by rw [gI_sI, if_pos ⟨rfl, rfl⟩]⟩
  · unfold f_X8_fail B_X8_fail_20
    rw [if_neg h1, wr_eq]
  · rw [gI_sI, if_neg (by omega)]; exact h1
  · rw [gI_sI, if_neg (by omega)]; exact h2
  · rw [gI_sI, if_neg (by omega)]; exact h3
theorem c_failG (N : Nat) {v : Int32} {X : Mem} (h : gI X 1 2 = 0) : ∃ X', f_X8_fail N v X = some X' ∧ FrT X X' ∧ gI X' 1 2 = v ∧ gI X' 1 3 = gI X 1 5 ∧ gI X' 1 4 = 5 := by
  refine ⟨sI (sI (sI X 1 2 v) 1 3 (gI (sI X 1 2 v) 1 5)) 1 4 5, ?_, ((FrT.s X (by omega)).trans (FrT.s _ (by omega))).trans (FrT.s _ (by omega)), ?_, ?_, ?_⟩
  · unfold f_X8_fail B_X8_fail_20
    rw [if_pos h, wr_eq, wr_eq, wr_eq]
  · rw [gI_sI, if_neg (by omega), gI_sI, if_neg (by omega), gI_sI, if_pos ⟨rfl, rfl⟩]
  · rw [gI_sI, if_neg (by omega), gI_sI, if_pos ⟨rfl, rfl⟩, gI_sI, if_neg (by omega)]
  · rw [gI_sI, if_pos ⟨rfl, rfl⟩]
theorem m_wrongG (N : Nat) {v p : Int32} {Y : Mem} (h : gI Y 95 11 = 0) : ∃ Y', f_X10_wrong N v p Y = some Y' ∧ FrY Y Y' ∧ gI Y' 95 9 = v ∧ gI Y' 95 10 = p ∧ gI Y' 95 11 = 1 ∧ gI Y' 95 8 = gI Y 95 8 := by
  refine ⟨sI (sI (sI Y 95 11 1) 95 9 v) 95 10 p, ?_, ((FrY.s Y (by omega)).trans (FrY.s _ (by omega))).trans (FrY.s _ (by omega)), ?_, ?_, ?_, ?_⟩
  · unfold f_X10_wrong
    rw [if_pos h, wr_eq, wr_eq, wr_eq]
  · rw [gI_sI, if_neg (by omega), gI_sI, if_pos ⟨rfl, rfl⟩]
  · rw [gI_sI, if_pos ⟨rfl, rfl⟩]
  · rw [gI_sI, if_neg (by omega), gI_sI, if_neg (by omega), gI_sI, if_pos ⟨rfl, rfl⟩]
  · rw [gI_sI, if_neg (by omega), gI_sI, if_neg (by omega), gI_sI, if_neg (by omega)]
theorem m_wrongB (N : Nat) {v p : Int32} {Y : Mem} (h : gI Y 95 11 = 1) : f_X10_wrong N v p Y = some Y := by
  unfold f_X10_wrong
  rw [if_neg (by rw [h]; decide)]
/-- an error of both at the same token -/
theorem both_fail (N : Nat) {T : Nat → Nat} {len s : Nat} {v : Int32} (hv : ¬ v = 0) {X Y : Mem} (hC : CT T len s X) (h2 : gI X 1 2 = 0) (h11 : gI Y 95 11 = 0) : ∃ X' Y', f_X8_fail N v X = some X' ∧ f_X10_wrong N v (nI s) Y = some Y' ∧ FrT X X' ∧ FrY Y Y' ∧ BadR X' Y' := by
  obtain ⟨X', a1, a2, a3, a4, a5⟩ := c_failG N (v := v) h2
  obtain ⟨Y', b1, b2, b3, b4, b5, b6⟩ := m_wrongG N (v := v) (p := nI s) h11
  exact ⟨X', Y', a1, b1, a2, b2, by rw [a3]; exact hv, by rw [a3, b3], by rw [a4, b4]; exact hC.2.2.1, b5, a5⟩
theorem m_digits {N : Nat} {T : Nat → Nat} {len s e : Nat} (lo hi : Int32) (hse : s ≤ e) (hel : e ≤ len) (hdig : ∀ j, s ≤ j → j < e → kk (T j) = 3) (hend : e < len → kk (T e) ≠ 3) : ∀ d n i v Y, TY T len Y → gI Y 95 8 = nI (s + i) → (s + i) + d = e → d < n → (i ≤ 6 → v = nI (dg T s i)) → ∃ v' Y', L_X10_number_30 N n lo hi 1 (nI s) v Y = some (lo, hi, 1, nI s, v', Y') ∧ FrY Y Y' ∧ (∀ j, j ≠ 8 → gI Y' 95 j = gI Y 95 j) ∧ gI Y' 95 8 = nI e ∧ (e - s ≤ 6 → v' = nI (dg T s (e - s))) := by
  intro d
  induction d with
  | zero =>
    intro n i v Y hT h8 hd hn hv
    have hl := hT.1
    obtain ⟨n, rfl⟩ : ∃ k, n = k + 1 := ⟨n - 1, by omega⟩
    refine ⟨v, Y, ?_, FrY.refl Y, fun _ _ => rfl, by rw [h8, show s + i = e by omega], fun h6 => by rw [hv (by omega), show e - s = i by omega]⟩
    show T_X10_number_30 N (L_X10_number_30 N n) _ _ _ _ _ _ = _
    unfold T_X10_number_30
    rw [if_neg (by decide), hT.2.2.1, h8]
    by_cases hx : s + i = len
    · rw [if_pos (nI_le (by omega) (by omega))]
    · rw [if_neg (nI_ge (by omega) (by omega)), gd_t (inb_nI (by omega) (by omega)), nI_clamp (by omega), hT.2.2.2 (s + i) (by omega), b2_of (show f_X10_in N (nI (T (s + i))) 48 57 Y = _ from m_in N (lo := 48) (hi := 57) (by have := hT.2.1 (s + i) (by omega); omega) (by omega) (by omega) Y), if_neg (show ¬ (48 ≤ T (s + i) ∧ T (s + i) ≤ 57) from fun q => hend (by omega) (by rw [show e = s + i by omega]; exact kk3i.mpr q)), if_pos rfl]
  | succ d ih =>
    intro n i v Y hT h8 hd hn hv
    have hl := hT.1
    obtain ⟨n, rfl⟩ : ∃ k, n = k + 1 := ⟨n - 1, by omega⟩
    have hb := hT.2.1 (s + i) (by omega)
    have hk := kk3 (hdig (s + i) (by omega) (by omega))
    have u : FrY Y (sI Y 95 8 (nI (s + i + 1))) := FrY.s Y (by omega)
    have nxt : ∀ w, (i + 1 ≤ 6 → w = nI (dg T s (i + 1))) → ∃ v' Y', B_X10_number_99 N (L_X10_number_30 N n) lo hi 1 (nI s) w Y = some (lo, hi, 1, nI s, v', Y') ∧ FrY Y Y' ∧ (∀ j, j ≠ 8 → gI Y' 95 j = gI Y 95 j) ∧ gI Y' 95 8 = nI e ∧ (e - s ≤ 6 → v' = nI (dg T s (e - s))) := by
      intro w hw
      obtain ⟨v', Y', a1, a2, a3, a4, a5⟩ := ih n (i + 1) w (sI Y 95 8 (nI (s + i + 1))) (hT.keep u) (by rw [gI_sI, if_pos ⟨rfl, rfl⟩]; rfl) (by omega) (by omega) hw
      refine ⟨v', Y', ?_, u.trans a2, fun j hj => by rw [a3 j hj, gI_sI, if_neg (by omega)], a4, a5⟩
      unfold B_X10_number_99
      rw [wr_eq, h8, nI_1]
      exact a1
    show ∃ v' Y', T_X10_number_30 N (L_X10_number_30 N n) _ _ _ _ _ _ = _ ∧ _
    unfold T_X10_number_30
    rw [if_neg (by decide), hT.2.2.1, h8, if_neg (nI_ge (by omega) (by omega)), gd_t (inb_nI (by omega) (by omega)), nI_clamp (by omega), hT.2.2.2 (s + i) (by omega), b2_of (show f_X10_in N (nI (T (s + i))) 48 57 Y = _ from m_in N (lo := 48) (hi := 57) (by omega) (by omega) (by omega) Y), if_pos hk, if_neg (by decide), h8, nI_sub (by omega), show s + i - s = i by omega]
    by_cases h6 : 6 ≤ i
    · rw [if_pos (show (6 : Int32) ≤ nI i from nI_le (a := 6) h6 (by omega))]
      exact nxt v (fun q => by omega)
    · rw [if_neg (show ¬ (6 : Int32) ≤ nI i from nI_ge (b := 6) (by omega) (by omega)), gd_t (inb_nI (by omega) (by omega)), nI_clamp (by omega), hT.2.2.2 (s + i) (by omega)]
      refine nxt _ (fun _ => ?_)
      rw [hv (by omega), show (10 : Int32) = nI 10 from rfl, nI_mul, nI_add, show (48 : Int32) = nI 48 from rfl, nI_sub (by omega)]
      show nI (10 * dg T s i + T (s + i) - 48) = nI (10 * dg T s i + (T (s + i) - 48))
      rw [show 10 * dg T s i + T (s + i) - 48 = 10 * dg T s i + (T (s + i) - 48) by omega]
theorem s_number {N : Nat} (hN : 801 < N) {T : Nat → Nat} {len : Nat} (lo hi : Int32) {X Y : Mem} (hX : TX T len X) (hY : TY T len Y) (h : (∃ s, GoodR T len s X Y) ∨ BadR X Y) :
    ∃ v v' X' Y', f_X8_readNumber N lo hi X = some (v, X') ∧ f_X10_number N lo hi Y = some (v', Y') ∧ FrT X X' ∧ FrY Y Y' ∧ ((∃ s s', GoodR T len s X Y ∧ GoodR T len s' X' Y' ∧ s < s' ∧ (kdT T len s = 3) ∧ ∃ n, n < 1000000 ∧ v = nI n ∧ v' = nI n ∧ lo ≤ nI n ∧ nI n ≤ hi) ∨ (BadR X' Y' ∧ v = -1 ∧ v' = 0)) := by
  have hl := hX.1
  rcases h with ⟨s, hG⟩ | hB
  · obtain ⟨hC, g2, g9, g3, g11, a, ha1, ha2, ha3⟩ := hG
    have hC' := hC
    obtain ⟨c1, c2, c3, c4, c5, c6⟩ := hC
    obtain ⟨Y1, y1, y2, y3, y4⟩ := m_here hN hY ha2 ha1
    rw [ha3] at y1 y4
    have hY1 := hY.keep y2
    have z11 : gI Y1 95 11 = 0 := by rw [y3 11 (by omega)]; exact g11
    -- an error of both
    have fail : ∀ c : Int32, ¬ c = 0 → ∀ Y2, FrY Y Y2 → gI Y2 95 11 = 0 → ∃ X' Y', b1 (f_X8_fail N c X) (fun m_1 => some ((-1 : Int32), m_1)) = some (-1, X') ∧ f_X10_wrong N c (nI s) Y2 = some Y' ∧ FrT X X' ∧ FrY Y Y' ∧ BadR X' Y' := by
      intro c hc Y2 u2 z
      obtain ⟨X', Y', q1, q2, q3, q4, q5⟩ := both_fail N hc hC' g2 z
      exact ⟨X', Y', by rw [b1_of q1], q2, q3, u2.trans q4, q5⟩
    have bad : ∀ c : Int32, ¬ c = 0 → ∀ Y2 v5, FrY Y Y2 → gI Y2 95 11 = 0 → ∃ X' Y', b1 (f_X8_fail N c X) (fun m_1 => some ((-1 : Int32), m_1)) = some (-1, X') ∧ b1 (f_X10_wrong N c (nI s) Y2) (fun m_12 => B_X10_number_157 N v5 m_12) = some (0, Y') ∧ FrT X X' ∧ FrY Y Y' ∧ BadR X' Y' := by
      intro c hc Y2 v5 u2 z
      obtain ⟨X', Y', q1, q2, q3, q4, q5⟩ := fail c hc Y2 u2 z
      refine ⟨X', Y', q1, ?_, q3, q4, q5⟩
      rw [b1_of q2]
      unfold B_X10_number_157
      rw [if_neg (by rw [q5.2.2.2.1]; decide)]
    unfold f_X8_readNumber f_X10_number
    rw [if_pos g11, b2_of y1, c4]
    by_cases hdig : s < len ∧ kk (T s) = 3
    · obtain ⟨hsl, hk3⟩ := hdig
      obtain ⟨r1, r2, r3, r4⟩ := rnk_ok (T := T) (k := 3) c1
      have hkk := kk3 hk3
      have hsr : s < rnk T len 3 s := by
        rw [rnk_step hsl, if_pos hk3]
        have := (rnk_ok (T := T) (k := 3) (show s + 1 ≤ len by omega)).1
        omega
      rw [if_neg (show ¬ s = len by omega), b2_of (show f_X10_in N (nI (T s)) 48 57 Y1 = _ from m_in N (lo := 48) (hi := 57) (by omega) (by omega) (by omega) Y1), if_pos hkk, y4]
      obtain ⟨v5, Y2, d1, d2, d3, d4, d5⟩ := m_digits (N := N) lo hi r1 r2 r3 r4 (rnk T len 3 s - s) N 0 0 Y1 hY1 (by rw [y4]; rfl) (by omega) (by omega) (fun _ => rfl)
      rw [l6_of d1]
      have u2 := y2.trans d2
      have z2 : gI Y2 95 11 = 0 := by rw [d3 11 (by omega)]; exact z11
      unfold B_X10_number_114 B_X10_number_130
      rw [if_neg (show ¬ (1 : Int32) = 0 by decide), d4, nI_sub r1]
      by_cases h6 : rnk T len 3 s - s ≤ 6
      · have hkd : kdT T len s = 3 := by
          unfold kdT
          rw [if_neg (by omega), if_neg (by omega)]
          exact hk3
        have hv5 := d5 h6
        have hdl := dg_lt (T := T) (s := s) (rnk T len 3 s - s) (fun j hj => r3 (s + j) (by omega) (by omega))
        have hdl' : dg T s (rnk T len 3 s - s) < 1000000 := by
          have : 10 ^ (rnk T len 3 s - s) ≤ 10 ^ 6 := Nat.pow_le_pow_right (by omega) h6
          omega
        generalize hn : dg T s (rnk T len 3 s - s) = n at *
        rw [hkd, if_pos (by rfl), if_pos (show nI (rnk T len 3 s - s) ≤ (6 : Int32) from nI_le (b := 6) h6 (by omega)), c6 hkd, hv5, in_eq]
        unfold B_X8_readNumber_31
        by_cases q1 : nI n < lo
        · rw [if_pos q1, if_pos q1]
          obtain ⟨X', Y', p1, p2, p3, p4, p5⟩ := bad 2 (by decide) Y2 (nI n) u2 z2
          exact ⟨-1, 0, X', Y', p1, by rw [b2_of rfl, if_pos rfl]; exact p2, p3, p4, Or.inr ⟨p5, rfl, rfl⟩⟩
        · rw [if_neg q1, if_neg q1]
          by_cases q2 : hi < nI n
          · rw [if_pos q2, if_neg (fun q => absurd q2 (Int32.not_lt.mpr q))]
            obtain ⟨X', Y', p1, p2, p3, p4, p5⟩ := bad 2 (by decide) Y2 (nI n) u2 z2
            exact ⟨-1, 0, X', Y', p1, by rw [b2_of rfl, if_pos rfl]; exact p2, p3, p4, Or.inr ⟨p5, rfl, rfl⟩⟩
          · have hen : enT T len s = rnk T len 3 s := by
              unfold enT
              rw [if_neg (by omega), if_neg (by omega), if_neg (by omega), if_pos hk3]
            obtain ⟨X', x1, x2, x3, x4, x5⟩ := c_next hN hX r2 (by rw [c5, hen])
            rw [if_neg q2, if_pos (Int32.not_lt.mp q2), b1_of x1]
            refine ⟨nI n, nI n, X', Y2, rfl, ?_, x2, u2, Or.inl ⟨s, sk T len (rnk T len 3 s), ⟨hC', g2, g9, g3, g11, a, ha1, ha2, ha3⟩, ⟨x5, by rw [x3]; exact g2, by rw [d3 9 (by omega), y3 9 (by omega)]; exact g9, by rw [x4, d3 10 (by omega), y3 10 (by omega)]; exact g3, z2, rnk T len 3 s, r2, d4, rfl⟩, ?_, hkd, n, hdl', rfl, rfl, Int32.not_lt.mp q1, Int32.not_lt.mp q2⟩⟩
            · rw [b2_of rfl, if_neg (by decide)]
              unfold B_X10_number_157
              rw [if_pos z2]
            · have := (sk_ok (T := T) r2).1
              omega
      · have hkd : kdT T len s = 5 := by
          unfold kdT
          rw [if_neg (by omega), if_pos ⟨hk3, by omega⟩]
        rw [hkd, if_neg (by decide), if_neg (show ¬ nI (rnk T len 3 s - s) ≤ (6 : Int32) from nI_ge (a := 6) (by omega) (by omega))]
        obtain ⟨X', Y', p1, p2, p3, p4, p5⟩ := bad 1 (by decide) Y2 v5 u2 z2
        exact ⟨-1, 0, X', Y', p1, p2, p3, p4, Or.inr ⟨p5, rfl, rfl⟩⟩
    · have hkd : ¬ kdT T len s = 3 := by
        unfold kdT
        by_cases e : s = len
        · rw [if_pos e]
          omega
        · rw [if_neg e]
          split
          · omega
          · exact fun q => hdig ⟨by omega, q⟩
      have hkl : kdT T len s ≤ 5 := by
        unfold kdT
        have := kk_b (T s)
        split
        · omega
        · split <;> omega
      have his : f_X10_in N (if s = len then -1 else nI (T s)) 48 57 Y1 = some (0, Y1) := by
        by_cases e : s = len
        · rw [if_pos e]
          rfl
        · have hb := hY.2.1 s (by omega)
          rw [if_neg e, show f_X10_in N (nI (T s)) 48 57 Y1 = _ from m_in N (lo := 48) (hi := 57) (by omega) (by omega) (by omega) Y1, if_neg (fun q => hdig ⟨by omega, kk3i.mpr q⟩)]
      obtain ⟨k, hk⟩ : ∃ k, N = k + 1 := ⟨N - 1, by omega⟩
      have hloop : L_X10_number_30 N N lo hi 0 (nI s) 0 Y1 = some (lo, hi, 0, nI s, 0, Y1) := by
        have : L_X10_number_30 N N = T_X10_number_30 N (L_X10_number_30 N k) := by
          rw [show L_X10_number_30 N N = L_X10_number_30 N (k + 1) from congrArg (L_X10_number_30 N) hk]
          rfl
        rw [this]
        unfold T_X10_number_30
        rw [if_pos rfl]
      rw [b2_of his, y4, l6_of hloop, if_neg (show ¬ nI (kdT T len s) = (3 : Int32) from fun q => hkd ((nI_eq (b := 3) (by omega) (by omega)).mp q))]
      unfold B_X10_number_114 B_X10_number_130
      rw [if_pos rfl]
      obtain ⟨X', Y', p1, p2, p3, p4, p5⟩ := bad 1 (by decide) Y1 0 y2 z11
      exact ⟨-1, 0, X', Y', p1, p2, p3, p4, Or.inr ⟨p5, rfl, rfl⟩⟩
  · obtain ⟨X', a1, a2, a3⟩ := c_failB N (v := 1) hB
    refine ⟨-1, 0, X', Y, ?_, ?_, a2, FrY.refl Y, Or.inr ⟨a3, rfl, rfl⟩⟩
    · unfold f_X8_readNumber
      rw [hB.2.2.2.2, if_neg (by decide), b1_of a1]
    · unfold f_X10_number
      rw [if_neg (by rw [hB.2.2.2.1]; decide)]
