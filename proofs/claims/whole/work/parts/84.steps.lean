/-! LOAD: single steps of both readers -/
def Bo (T : Nat → Nat) (len b : Nat) (X Y : Mem) : Prop := (∃ s, b ≤ s ∧ GoodR T len s X Y) ∨ BadR X Y
/-- the class stands before a number that is too long, the model has failed there -/
def Semi (T : Nat → Nat) (len : Nat) (X Y : Mem) : Prop := ∃ s, CT T len s X ∧ gI X 1 2 = 0 ∧ kdT T len s = 5 ∧ gI Y 95 9 = 1 ∧ gI Y 95 10 = nI s ∧ gI Y 95 11 = 1
theorem CT.eq {T : Nat → Nat} {len s : Nat} {X X' : Mem} (h : CT T len s X) (e : gI X' 1 = gI X 1) : CT T len s X' := by
  unfold CT at h ⊢
  rw [e]
  exact h
theorem BadR.eq {X Y X' Y' : Mem} (h : BadR X Y) (e : gI X' 1 = gI X 1) (f : gI Y' 95 = gI Y 95) : BadR X' Y' := by
  unfold BadR at h ⊢
  rw [e, f]
  exact h
theorem GoodR.eq {T : Nat → Nat} {len s : Nat} {X Y X' Y' : Mem} (h : GoodR T len s X Y) (e : gI X' 1 = gI X 1) (f : gI Y' 95 = gI Y 95) : GoodR T len s X' Y' := by
  unfold GoodR at h ⊢
  rw [e, f]
  exact ⟨h.1.eq e, h.2⟩
theorem Bo.eq {T : Nat → Nat} {len b : Nat} {X Y X' Y' : Mem} (h : Bo T len b X Y) (e : gI X' 1 = gI X 1) (f : gI Y' 95 = gI Y 95) : Bo T len b X' Y' :=
  h.elim (fun ⟨s, hs, hg⟩ => Or.inl ⟨s, hs, hg.eq e f⟩) (fun h => Or.inr (h.eq e f))
theorem Semi.eq {T : Nat → Nat} {len : Nat} {X Y X' Y' : Mem} (h : Semi T len X Y) (e : gI X' 1 = gI X 1) (f : gI Y' 95 = gI Y 95) : Semi T len X' Y' := by
  obtain ⟨s, h1, h2⟩ := h
  refine ⟨s, h1.eq e, ?_⟩
  rw [e, f]
  exact h2
theorem Bo.good {T : Nat → Nat} {len b : Nat} {X Y : Mem} (h : Bo T len b X Y) (h0 : gI Y 95 11 = 0) : ∃ s, b ≤ s ∧ GoodR T len s X Y :=
  h.elim id (fun h => absurd (h0.symm.trans h.2.2.2.1) (by decide))
theorem n_step {N : Nat} (hN : 801 < N) {T : Nat → Nat} {len b : Nat} (lo hi : Int32) {X Y : Mem} (hX : TX T len X) (hY : TY T len Y) (h : Bo T len b X Y) :
    ∃ v v' X' Y', f_X8_readNumber N lo hi X = some (v, X') ∧ f_X10_number N lo hi Y = some (v', Y') ∧ FrT X X' ∧ FrY Y Y' ∧ Bo T len b X' Y' ∧ (gI Y' 95 11 = 0 → gI Y 95 11 = 0 ∧ ∃ n, n < 1000000 ∧ v = nI n ∧ v' = nI n ∧ lo ≤ nI n ∧ nI n ≤ hi) ∧ (¬ gI Y' 95 11 = 0 → v = -1 ∧ v' = 0) := by
  obtain ⟨v, v', X', Y', a1, a2, a3, a4, a5⟩ := s_number hN lo hi hX hY (h.elim (fun ⟨s, _, hg⟩ => Or.inl ⟨s, hg⟩) Or.inr)
  refine ⟨v, v', X', Y', a1, a2, a3, a4, ?_⟩
  rcases a5 with ⟨s, s', g1, g2, g3, g4, n, g5⟩ | ⟨g1, g2, g3⟩
  · obtain ⟨s0, q1, q2⟩ := h.good g1.2.2.2.2.1
    have e : s0 = s := by
      have u1 := q2.1.2.2.1
      have u2 := g1.1.2.2.1
      have v1 := q2.1.1
      have v2 := g1.1.1
      have v3 := hX.1
      exact (nI_eq (by omega) (by omega)).mp (u1.symm.trans u2)
    exact ⟨Or.inl ⟨s', by omega, g2⟩, fun _ => ⟨g1.2.2.2.2.1, n, g5⟩, fun q => absurd g2.2.2.2.2.1 q⟩
  · exact ⟨Or.inr g1, fun q => absurd (q.symm.trans g1.2.2.2.1) (by decide), fun _ => ⟨g2, g3⟩⟩
/-- a word of the language at s -/
theorem isW_s {T : Nat → Nat} {len s k : Nat} (hs : s ≤ len) (hk : k < 10) (h : isW T len s k = true) : s < len ∧ kk (T s) = 2 ∧ s < rnk T len 2 s ∧ enT T len s = rnk T len 2 s := by
  obtain ⟨t1, t2, t3, t4⟩ := str_tab k hk
  unfold isW at h
  rw [Bool.and_eq_true, decide_eq_true_eq] at h
  have hl := h.1
  have hlt : s < rnk T len 2 s := by omega
  have := (rnk_ok (T := T) (k := 2) hs).2.1
  have hkk := (rnk_ok (T := T) (k := 2) hs).2.2.1 s (by omega) hlt
  refine ⟨by omega, hkk, hlt, ?_⟩
  unfold enT
  rw [if_neg (by omega), if_neg (by omega), if_pos hkk]
theorem w_step {N : Nat} (hN : 801 < N) {T : Nat → Nat} {len s k : Nat} {X Y : Mem} (hX : TX T len X) (hY : TY T len Y) (h : GoodR T len s X Y) (hk : k < 10) (hw : isW T len s k = true) (h8 : gI Y 95 8 = nI s) :
    ∃ X' e, f_X8_nextToken N X = some X' ∧ FrT X X' ∧ f_X10_wordEnd N Y = some (e, Y) ∧ FrY Y (sI Y 95 8 e) ∧ (∃ s', s < s' ∧ GoodR T len s' X' (sI Y 95 8 e)) := by
  obtain ⟨hC, g2, g9, g3, g11, a, ha1, ha2, ha3⟩ := h
  obtain ⟨c1, c2, c3, c4, c5, c6⟩ := hC
  obtain ⟨w1, w2, w3, w4⟩ := isW_s c1 hk hw
  have hr := (rnk_ok (T := T) (k := 2) c1).2.1
  obtain ⟨X', x1, x2, x3, x4, x5⟩ := c_next hN hX hr (by rw [c5, w4])
  refine ⟨X', nI (rnk T len 2 s), x1, x2, m_wordEnd hN hY h8 c1, FrY.s Y (by omega), sk T len (rnk T len 2 s), by have := (sk_ok (T := T) hr).1; omega, x5, by rw [x3]; exact g2, by rw [gI_sI, if_neg (by omega)]; exact g9, by rw [x4, gI_sI, if_neg (by omega)]; exact g3, by rw [gI_sI, if_neg (by omega)]; exact g11, rnk T len 2 s, hr, by rw [gI_sI, if_pos ⟨rfl, rfl⟩], rfl⟩
theorem c_noWord {N k : Nat} {X : Mem} (h : gI X 1 4 = 5) : f_X8_isWord N k X = some (0, X) := by
  unfold f_X8_isWord
  rw [if_neg (by rw [h]; decide)]
theorem lg_W {w : Int} {k : Nat} {W : Int64} (h1 : -1 ≤ w) (h2 : w < 27 ^ 9) (hk : Wk k < 27 ^ 9) (hW : W = Int64.ofInt (Wk k)) : (lg_cmp (Int64.ofInt w) W = 0) ↔ w = (Wk k : Int) := by
  constructor
  · intro h
    have : Int64.ofInt w = W := by
      unfold lg_cmp at h
      split at h
      · exact absurd h (by decide)
      · split at h
        · assumption
        · exact absurd h (by decide)
    rw [hW] at this
    have e := congrArg Int64.toInt this
    rw [Int64.toInt_ofInt_of_le (by omega) (by omega), Int64.toInt_ofInt_of_le (by omega) (by omega)] at e
    exact e
  · intro h
    rw [hW, h]
    exact lg_self _
theorem Wk_tab : ∀ k, k < 10 → Wk k < 27 ^ 9 := by decide +kernel
/-- the model tests a word that it stands at -/
theorem m_isW {N : Nat} (hN : 801 < N) {T : Nat → Nat} {len s k : Nat} {Y : Mem} {W : Int64} (hY : TY T len Y) (h8 : gI Y 95 8 = nI s) (hs : s ≤ len) (hk : k < 10) (hW : W = Int64.ofInt (Wk k)) : f_X10_word N Y = some (Int64.ofInt (wd T len s), Y) ∧ ((lg_cmp (Int64.ofInt (wd T len s)) W = 0) ↔ isW T len s k = true) := by
  obtain ⟨a1, a2, a3⟩ := m_word hN hY h8 hs
  exact ⟨a1, (lg_W a2 a3 (Wk_tab k hk) hW).trans (wd_isW hs hk)⟩
theorem takes_step {N : Nat} (hN : 801 < N) {T : Nat → Nat} {len b k : Nat} {X Y : Mem} {W : Int64} (hX : TX T len X) (hY : TY T len Y) (h : Bo T len b X Y) (hk : k < 10) (hW : W = Int64.ofInt (Wk k)) :
    ∃ c Y', f_X8_isWord N k X = some (c, X) ∧ f_X10_takes N W Y = some (c, Y') ∧ FrY Y Y' ∧ (gI Y' 95 11 = gI Y 95 11) ∧ ((c = 0 ∧ Bo T len b X Y' ∧ (gI Y 95 11 = 0 → ∃ s, b ≤ s ∧ GoodR T len s X Y' ∧ gI Y' 95 8 = nI s)) ∨ (c = 1 ∧ ∃ X', f_X8_nextToken N X = some X' ∧ FrT X X' ∧ Bo T len b X' Y')) := by
  rcases h with ⟨s, hb, hG⟩ | hB
  · have hG' := hG
    obtain ⟨hC, g2, g9, g3, g11, a, ha1, ha2, ha3⟩ := hG
    obtain ⟨Y1, y1, y2, y3, y4⟩ := m_here hN hY ha2 ha1
    rw [ha3] at y1 y4
    have hY1 := hY.keep y2
    have c1 := hC.1
    have hl := hX.1
    have hG1 : GoodR T len s X Y1 := ⟨hC, g2, by rw [y3 9 (by omega)]; exact g9, by rw [y3 10 (by omega)]; exact g3, by rw [y3 11 (by omega)]; exact g11, s, c1, y4, sk_self c1 hC.2.1⟩
    obtain ⟨p1, p2⟩ := m_isW hN hY1 y4 c1 hk hW
    by_cases hw : isW T len s k = true
    · obtain ⟨w1, w2, w3, w4⟩ := isW_s c1 hk hw
      obtain ⟨X', e, q1, q2, q3, q4, s', q5, q6⟩ := w_step hN hX hY1 hG1 hk hw y4
      refine ⟨1, sI Y1 95 8 e, by rw [c_isWord (by omega) hX hC hk, if_pos hw], ?_, y2.trans q4, by rw [gI_sI, if_neg (by omega), y3 11 (by omega)], Or.inr ⟨rfl, X', q1, q2, Or.inl ⟨s', by omega, q6⟩⟩⟩
      have hb := hY.2.1 s (by omega)
      unfold f_X10_takes
      rw [if_pos g11, b2_of y1, if_neg (show ¬ s = len by omega), if_neg (by rw [show (-1 : Int32) = Int32.ofInt (-1) from rfl]; intro q; have := congrArg Int32.toInt q; rw [nI_toInt (by omega)] at this; rw [show (Int32.ofInt (-1)).toInt = -1 from rfl] at this; omega), b2_of p1, if_pos (p2.mpr hw), b2_of q3, wr_eq]
    · refine ⟨0, Y1, by rw [c_isWord (by omega) hX hC hk, if_neg hw], ?_, y2, y3 11 (by omega), Or.inl ⟨rfl, Or.inl ⟨s, hb, hG1⟩, fun _ => ⟨s, hb, hG1, y4⟩⟩⟩
      unfold f_X10_takes
      rw [if_pos g11, b2_of y1]
      by_cases e : (if s = len then (-1 : Int32) else nI (T s)) = -1
      · rw [if_pos e]
      · rw [if_neg e, b2_of p1, if_neg (fun q => hw (p2.mp q))]
  · refine ⟨0, Y, c_noWord hB.2.2.2.2, ?_, FrY.refl Y, rfl, Or.inl ⟨rfl, Or.inr hB, fun q => absurd (q.symm.trans hB.2.2.2.1) (by decide)⟩⟩
    unfold f_X10_takes
    rw [if_neg (by rw [hB.2.2.2.1]; decide)]
/-- the semicolon -/
theorem semi_step {N : Nat} (hN : 801 < N) {T : Nat → Nat} {len b : Nat} {X Y : Mem} (hX : TX T len X) (hY : TY T len Y) (h : Bo T len b X Y ∨ Semi T len X Y) :
    ∃ X' Y', f_X8_readSemicolon N X = some X' ∧ B_X10_textLine_190 N Y = some Y' ∧ FrT X X' ∧ FrY Y Y' ∧ Bo T len (b + 1) X' Y' ∧ (gI Y' 95 11 = 0 → gI Y 95 11 = 0) := by
  unfold f_X8_readSemicolon B_X10_textLine_190
  -- a bad state stays bad
  have bad : ∀ X' Y', BadR X' Y' → FrT X X' → FrY Y Y' → ∃ Y2, B_X10_textLine_215 N Y' = some Y2 ∧ FrY Y Y2 ∧ Bo T len (b + 1) X' Y2 ∧ (gI Y2 95 11 = 0 → gI Y 95 11 = 0) := by
    intro X' Y' hB u1 u2
    have e : ∀ j, j ≠ 8 → gI (sI Y' 95 8 (gI Y' 95 8 + 1)) 95 j = gI Y' 95 j := fun j hj => by rw [gI_sI, if_neg (by omega)]
    refine ⟨sI Y' 95 8 (gI Y' 95 8 + 1), rfl, u2.trans (FrY.s _ (by omega)), Or.inr ?_, fun q => ?_⟩
    · unfold BadR
      rw [e 9 (by omega), e 10 (by omega), e 11 (by omega)]
      exact hB
    · rw [e 11 (by omega), hB.2.2.2.1] at q
      exact absurd q (by decide)
  rcases h with (⟨s, hb, hG⟩ | hB) | ⟨s, hC, h2, h5, h9, h10, h11⟩
  · obtain ⟨hC, g2, g9, g3, g11, a, ha1, ha2, ha3⟩ := hG
    have hC' := hC
    obtain ⟨Y1, y1, y2, y3, y4⟩ := m_here hN hY ha2 ha1
    rw [ha3] at y1 y4
    obtain ⟨c1, c2, c3, c4, c5, c6⟩ := hC
    have hl := hX.1
    have hkl : kdT T len s ≤ 5 := by
      unfold kdT
      have := kk_b (T s)
      split
      · omega
      · split <;> omega
    rw [if_pos g11, b2_of y1, c4]
    by_cases h4 : kdT T len s = 4
    · have hsl : ¬ s = len := fun q => by
        unfold kdT at h4
        rw [if_pos q] at h4
        omega
      have hk4 : kk (T s) = 4 := by
        unfold kdT at h4
        rw [if_neg hsl] at h4
        split at h4
        · omega
        · exact h4
      have hen : enT T len s = s + 1 := by
        unfold enT
        rw [if_neg hsl, if_pos hk4]
      obtain ⟨X', x1, x2, x3, x4, x5⟩ := c_next hN hX (e := s + 1) (by omega) (by rw [c5, hen])
      rw [h4, if_pos (by rfl), b1_of x1, if_neg hsl, kk4i.mp hk4, if_pos (by rfl)]
      refine ⟨X', sI Y1 95 8 (gI Y1 95 8 + 1), rfl, rfl, x2, y2.trans (FrY.s _ (by omega)), Or.inl ⟨sk T len (s + 1), by have := (sk_ok (T := T) (show s + 1 ≤ len by omega)).1; omega, x5, by rw [x3]; exact g2, by rw [gI_sI, if_neg (by omega), y3 9 (by omega)]; exact g9, by rw [x4, gI_sI, if_neg (by omega), y3 10 (by omega)]; exact g3, by rw [gI_sI, if_neg (by omega), y3 11 (by omega)]; exact g11, s + 1, by omega, by rw [gI_sI, if_pos ⟨rfl, rfl⟩, y4, nI_1], rfl⟩, fun _ => g11⟩
    · have hne : ¬ (if s = len then (-1 : Int32) else nI (T s)) = 59 := by
        by_cases e : s = len
        · rw [if_pos e]
          decide
        · have hb' := hY.2.1 s (by omega)
          rw [if_neg e]
          intro q
          have e2 : T s = 59 := (nI_eq (b := 59) (by omega) (by omega)).mp q
          apply h4
          unfold kdT
          rw [if_neg e, if_neg (by rw [e2]; intro q; exact absurd q.1 (by decide)), e2]
          rfl
      obtain ⟨X', Y', p1, p2, p3, p4, p5⟩ := both_fail N (v := 1) (by decide) hC' g2 (show gI Y1 95 11 = 0 by rw [y3 11 (by omega)]; exact g11)
      obtain ⟨Y2, r1, r2, r3, r4⟩ := bad X' Y' p5 p3 (y2.trans p4)
      rw [if_neg (show ¬ nI (kdT T len s) = (4 : Int32) from fun q => h4 ((nI_eq (b := 4) (by omega) (by omega)).mp q)), b1_of p1, if_neg hne, y4, b1_of p2]
      exact ⟨X', Y2, rfl, r1, p3, r2, r3, r4⟩
  · obtain ⟨X', a1, a2, a3⟩ := c_failB N (v := 1) hB
    obtain ⟨Y2, r1, r2, r3, r4⟩ := bad X' Y a3 a2 (FrY.refl Y)
    rw [if_neg (by rw [hB.2.2.2.2]; decide), b1_of a1, if_neg (by rw [hB.2.2.2.1]; decide)]
    exact ⟨X', Y2, rfl, r1, a2, r2, r3, r4⟩
  · obtain ⟨X', a1, a2, a3, a4, a5⟩ := c_failG N (v := 1) h2
    obtain ⟨Y2, r1, r2, r3, r4⟩ := bad X' Y ⟨by rw [a3]; decide, by rw [a3, h9], by rw [a4, h10]; exact hC.2.2.1, h11, a5⟩ a2 (FrY.refl Y)
    rw [if_neg (by rw [hC.2.2.2.1, h5]; decide), b1_of a1, if_neg (by rw [h11]; decide)]
    exact ⟨X', Y2, rfl, r1, a2, r2, r3, r4⟩
