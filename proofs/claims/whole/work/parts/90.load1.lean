/-! LOAD: a statement, and all of them -/
theorem s_line {N : Nat} (hN : 1000 < N) {T : Nat → Nat} {len s S : Nat} {X Y : Mem} (hS : S = 71 ∨ S = 83) (hX : TX T len X) (hY : TY T len Y) (h : GoodR T len s X Y) (h8 : gI Y 95 8 = nI s) (hD : SD S X Y) :
    ∃ X' Y', f_X8_readStatement N S X = some X' ∧ f_X10_textLine N Y = B_X10_textLine_190 N Y' ∧ LnOK T len s S X Y X' Y' := by
  have hN' : 801 < N := by omega
  have hs := h.1.1
  have c1 : ∀ k, k < 10 → isW T len s k = true → f_X8_isWord N k X = some (1, X) := fun k hk q => by rw [c_isWord (by omega) hX h.1 hk, if_pos q]
  have c0 : ∀ k, k < 10 → ¬ isW T len s k = true → f_X8_isWord N k X = some (0, X) := fun k hk q => by rw [c_isWord (by omega) hX h.1 hk, if_neg q]
  have n1 : ¬ (1 : Int32) = 0 := by decide
  obtain ⟨mw, m0⟩ := m_isW hN' (k := 0) (W := 8533092) hY h8 hs (by omega) (by decide +kernel)
  have m1 := (m_isW hN' (k := 1) (W := 190544034357) hY h8 hs (by omega) (by decide +kernel)).2
  have m3 := (m_isW hN' (k := 3) (W := 174563265846) hY h8 hs (by omega) (by decide +kernel)).2
  have m5 := (m_isW hN' (k := 5) (W := 37396683146) hY h8 hs (by omega) (by decide +kernel)).2
  have m6 := (m_isW hN' (k := 6) (W := 7057186471) hY h8 hs (by omega) (by decide +kernel)).2
  have m7 := (m_isW hN' (k := 7) (W := 243140) hY h8 hs (by omega) (by decide +kernel)).2
  have m8 := (m_isW hN' (k := 8) (W := 326280) hY h8 hs (by omega) (by decide +kernel)).2
  have m9 := (m_isW hN' (k := 9) (W := 6564179) hY h8 hs (by omega) (by decide +kernel)).2
  unfold f_X8_readStatement f_X10_textLine
  rw [b2_of mw]
  by_cases w0 : isW T len s 0 = true
  · obtain ⟨X', Y', a1, a2, a3⟩ := ln_panel hN' hS hX hY h w0 h8 hD
    exact ⟨X', Y', by rw [b2_of (c1 0 (by omega) w0), if_neg n1, b1_of a1], by rw [if_pos (m0.mpr w0), b1_of a2], a3⟩
  rw [b2_of (c0 0 (by omega) w0), if_pos rfl, if_neg (fun q => w0 (m0.mp q))]
  by_cases w1 : isW T len s 1 = true
  · obtain ⟨X', Y', a1, a2, a3⟩ := ln_rev hN hS hX hY h w1 h8 hD
    exact ⟨X', Y', by rw [b2_of (c1 1 (by omega) w1), if_neg n1, b1_of a1], by rw [if_pos (m1.mpr w1), b1_of a2], a3⟩
  rw [b2_of (c0 1 (by omega) w1), if_pos rfl, if_neg (fun q => w1 (m1.mp q))]
  by_cases w3 : isW T len s 3 = true
  · obtain ⟨X', Y', a1, a2, a3⟩ := ln_prop hN' hS hX hY h w3 h8 hD
    exact ⟨X', Y', by rw [b2_of (c1 3 (by omega) w3), if_neg n1, b1_of a1], by rw [if_pos (m3.mpr w3), b1_of a2], a3⟩
  rw [b2_of (c0 3 (by omega) w3), if_pos rfl, if_neg (fun q => w3 (m3.mp q))]
  by_cases w5 : isW T len s 5 = true
  · obtain ⟨X', Y', a1, a2, a3⟩ := ln_conf hN' hS hX hY h w5 h8 hD
    exact ⟨X', Y', by rw [b2_of (c1 5 (by omega) w5), if_neg n1, b1_of a1], by rw [if_pos (m5.mpr w5), b1_of a2], a3⟩
  rw [b2_of (c0 5 (by omega) w5), if_pos rfl, if_neg (fun q => w5 (m5.mp q))]
  unfold f_X8_readSetting
  by_cases w6 : isW T len s 6 = true
  · obtain ⟨v, v', X1, X2, Y2, e, X', Y', a1, a2, a3, a4, a5, a6, a7⟩ := ln_set hN' (i := 3) (j := 14) 1 4 hS hX hY h (by omega) w6 h8 hD (fun n q1 q2 q3 => Or.inl ⟨rfl, rfl, (nI_leI (a := 1) (by omega) (by omega)).mp q2, (nI_leI (b := 4) (by omega) (by omega)).mp q3⟩)
    exact ⟨X', Y', by rw [b2_of (c1 6 (by omega) w6), if_neg n1, b1_of a1, b2_of a2, gd_t (st_k hS), wr_eq, a3]; rfl, by rw [if_pos (m6.mpr w6), b2_of a4, wr_eq, b2_of a5, wr_eq, a6], a7⟩
  rw [b2_of (c0 6 (by omega) w6), if_pos rfl, if_neg (fun q => w6 (m6.mp q))]
  by_cases w7 : isW T len s 7 = true
  · obtain ⟨v, v', X1, X2, Y2, e, X', Y', a1, a2, a3, a4, a5, a6, a7⟩ := ln_set hN' (i := 4) (j := 16) 0 100000 hS hX hY h (by omega) w7 h8 hD (fun n q1 q2 q3 => Or.inr (Or.inl ⟨rfl, rfl, (nI_leI (b := 100000) (by omega) (by omega)).mp q3⟩))
    refine ⟨X', Y', by rw [b2_of (c1 7 (by omega) w7), if_neg n1, b1_of a1, b2_of a2, gd_t (st_k hS), wr_eq, a3]; rfl, ?_, a7⟩
    unfold B_X10_textLine_112 B_X10_textLine_137
    rw [if_pos (m7.mpr w7), b2_of a4, wr_eq, if_pos (m7.mpr w7), b2_of a5, gd_t (show inb 4 151 = true from by decide), wr_eq, ← a6]
    rfl
  rw [b2_of (c0 7 (by omega) w7), if_pos rfl, if_neg (fun q => w7 (m7.mp q))]
  by_cases w8 : isW T len s 8 = true
  · obtain ⟨v, v', X1, X2, Y2, e, X', Y', a1, a2, a3, a4, a5, a6, a7⟩ := ln_set hN' (i := 5) (j := 17) 0 100000 hS hX hY h (by omega) w8 h8 hD (fun n q1 q2 q3 => Or.inr (Or.inr (Or.inl ⟨rfl, rfl, (nI_leI (b := 100000) (by omega) (by omega)).mp q3⟩)))
    refine ⟨X', Y', by rw [b2_of (c1 8 (by omega) w8), if_neg n1, b1_of a1, b2_of a2, gd_t (st_k hS), wr_eq, a3]; rfl, ?_, a7⟩
    unfold B_X10_textLine_112 B_X10_textLine_137
    rw [if_pos (m8.mpr w8), b2_of a4, wr_eq, if_neg (fun q => w7 (m7.mp q)), b2_of a5, gd_t (show inb 5 151 = true from by decide), wr_eq, ← a6]
    rfl
  rw [b2_of (c0 8 (by omega) w8), if_pos rfl, if_neg (fun q => w8 (m8.mp q))]
  by_cases w9 : isW T len s 9 = true
  · obtain ⟨v, v', X1, X2, Y2, e, X', Y', a1, a2, a3, a4, a5, a6, a7⟩ := ln_set hN' (i := 6) (j := 15) 0 99 hS hX hY h (by omega) w9 h8 hD (fun n q1 q2 q3 => Or.inr (Or.inr (Or.inr ⟨rfl, rfl, (nI_leI (b := 99) (by omega) (by omega)).mp q3⟩)))
    exact ⟨X', Y', by rw [b2_of (c1 9 (by omega) w9), if_neg n1, b1_of a1, b2_of a2, gd_t (st_k hS), wr_eq, a3]; rfl, by rw [if_pos (m9.mpr w9), b2_of a4, wr_eq, b2_of a5, wr_eq, a6], a7⟩
  obtain ⟨X', Y', p1, p2, p3, p4, p5⟩ := both_fail N (v := 1) (by decide) h.1 h.2.1 h.2.2.2.2.1
  exact ⟨X', Y', by rw [b2_of (c0 9 (by omega) w9), if_pos rfl, b1_of p1]; rfl, by rw [if_neg (fun q => w9 (m9.mp q)), h8, b1_of p2], ln_bad p3 p4 p5⟩
theorem r_loop {N : Nat} (hN : 1000 < N) {T : Nat → Nat} {len S : Nat} (hS : S = 71 ∨ S = 83) : ∀ d n n' i X Y, TX T len X → TY T len Y → ((∃ s, i ≤ s ∧ len - s ≤ d ∧ GoodR T len s X Y ∧ SD S X Y) ∨ BadR X Y) → i ≤ 800 → d + 1 < n → d + 1 < n' →
    ∃ X' Y', L_X8_read_25 N n S (nI i) X = some X' ∧ L_X10_load_63 N n' Y = some Y' ∧ FrA S X X' ∧ FrB Y Y' ∧ ((∃ s, GoodR T len s X' Y' ∧ SD S X' Y') ∨ BadR X' Y') := by
  have hN' : 801 < N := by omega
  intro d
  induction d with
  | zero =>
    intro n n' i X Y hX hY h hi hn hn'
    obtain ⟨n, rfl⟩ : ∃ k, n = k + 1 := ⟨n - 1, by omega⟩
    obtain ⟨n', rfl⟩ : ∃ k, n' = k + 1 := ⟨n' - 1, by omega⟩
    show ∃ X' Y', T_X8_read_25 N (L_X8_read_25 N n) _ _ _ = _ ∧ T_X10_load_63 N (L_X10_load_63 N n') _ = _ ∧ _
    unfold T_X8_read_25 T_X10_load_63
    rcases h with ⟨s, h1, h2, hG, hD⟩ | hB
    · have hG' := hG
      obtain ⟨hC, g2, g9, g3, g11, a, ha1, ha2, ha3⟩ := hG
      obtain ⟨Y1, y1, y2, y3, y4⟩ := m_here hN' hY ha2 ha1
      rw [ha3] at y1 y4
      have c1 := hC.1
      have e : s = len := by omega
      have hG1 : GoodR T len s X Y1 := ⟨hC, g2, by rw [y3 9 (by omega)]; exact g9, by rw [y3 10 (by omega)]; exact g3, by rw [y3 11 (by omega)]; exact g11, s, c1, y4, sk_self c1 hC.2.1⟩
      have hkd : gI X 1 4 = 0 := by
        rw [hC.2.2.2.1]
        unfold kdT
        rw [if_pos e]
        rfl
      rw [if_pos g11, b2_of y1, if_pos e, if_pos rfl, if_pos hkd]
      refine ⟨X, Y1, ?_, rfl, (FrT.refl X).a S, y2.b, Or.inl ⟨s, hG1, hD.eq (by omega) (fun _ _ => rfl) (y2.1 97 (by omega))⟩⟩
      split <;> rfl
    · rw [if_neg (show ¬ gI X 1 4 = 0 by rw [hB.2.2.2.2]; decide), if_neg hB.1, if_neg (show ¬ gI Y 95 11 = 0 by rw [hB.2.2.2.1]; decide)]
      refine ⟨X, Y, ?_, rfl, (FrT.refl X).a S, (FrY.refl Y).b, Or.inr hB⟩
      split <;> rfl
  | succ d ih =>
    intro n n' i X Y hX hY h hi hn hn'
    have hl := hX.1
    obtain ⟨n, rfl⟩ : ∃ k, n = k + 1 := ⟨n - 1, by omega⟩
    obtain ⟨n', rfl⟩ : ∃ k, n' = k + 1 := ⟨n' - 1, by omega⟩
    show ∃ X' Y', T_X8_read_25 N (L_X8_read_25 N n) _ _ _ = _ ∧ T_X10_load_63 N (L_X10_load_63 N n') _ = _ ∧ _
    unfold T_X8_read_25 T_X10_load_63
    rcases h with ⟨s, h1, h2, hG, hD⟩ | hB
    · have hG' := hG
      obtain ⟨hC, g2, g9, g3, g11, a, ha1, ha2, ha3⟩ := hG
      obtain ⟨Y1, y1, y2, y3, y4⟩ := m_here hN' hY ha2 ha1
      rw [ha3] at y1 y4
      have c1 := hC.1
      have hG1 : GoodR T len s X Y1 := ⟨hC, g2, by rw [y3 9 (by omega)]; exact g9, by rw [y3 10 (by omega)]; exact g3, by rw [y3 11 (by omega)]; exact g11, s, c1, y4, sk_self c1 hC.2.1⟩
      have hD1 : SD S X Y1 := hD.eq (by omega) (fun _ _ => rfl) (y2.1 97 (by omega))
      by_cases e : s = len
      · have hkd : gI X 1 4 = 0 := by
          rw [hC.2.2.2.1]
          unfold kdT
          rw [if_pos e]
          rfl
        rw [if_pos g11, b2_of y1, if_pos e, if_pos rfl, if_pos hkd]
        refine ⟨X, Y1, ?_, rfl, (FrT.refl X).a S, y2.b, Or.inl ⟨s, hG1, hD1⟩⟩
        split <;> rfl
      · have hb := hY.2.1 s (by omega)
        have hkd : ¬ gI X 1 4 = 0 := by
          rw [hC.2.2.2.1]
          have := kk_b (T s)
          have h0 : ¬ kdT T len s = 0 ∧ kdT T len s ≤ 5 := by
            unfold kdT
            rw [if_neg e]
            split <;> omega
          exact fun q => h0.1 ((nI_eq (b := 0) (by omega) (by omega)).mp q)
        obtain ⟨X2, Y2, a1, a2, a3, a4, a5, a6⟩ := s_line hN hS hX (hY.keep y2) hG1 y4 hD1
        have hX2 := hX.a (by omega) a3
        have hY2 := (hY.keep y2).b a4
        obtain ⟨X3, Y3, b1', b2', b3, b4, b5, b6⟩ := semi_step hN' hX2 hY2 a5
        have nxt : (∃ s', i + 1 ≤ s' ∧ len - s' ≤ d ∧ GoodR T len s' X3 Y3 ∧ SD S X3 Y3) ∨ BadR X3 Y3 := by
          rcases b5 with ⟨s', q1, q2⟩ | q
          · exact Or.inl ⟨s', by omega, by omega, q2, (a6 (b6 q2.2.2.2.2.1)).eq (by omega) (fun k hk => b3.1 k hk) (b4.1 97 (by omega))⟩
          · exact Or.inr q
        obtain ⟨X', Y', o1, o2, o3, o4, o5⟩ := ih n n' (i + 1) X3 Y3 (hX2.keep b3) (hY2.keep b4) nxt (by omega) (by omega) (by omega)
        rw [if_pos g11, b2_of y1, if_neg e, if_neg (ne_m1 (by omega)), a2, b1_of b2', if_neg (show ¬ (800 : Int32) ≤ nI i from nI_ge (b := 800) (by omega) (by omega)), if_neg hkd, if_pos g2, b1_of a1, b1_of b1', nI_1]
        exact ⟨X', Y', o1, o2, (a3.trans (b3.a S)).trans o3, ((y2.b.trans a4).trans b4.b).trans o4, o5⟩
    · rw [if_neg (show ¬ gI X 1 4 = 0 by rw [hB.2.2.2.2]; decide), if_neg hB.1, if_neg (show ¬ gI Y 95 11 = 0 by rw [hB.2.2.2.1]; decide)]
      refine ⟨X, Y, ?_, rfl, (FrT.refl X).a S, (FrY.refl Y).b, Or.inr hB⟩
      split <;> rfl
