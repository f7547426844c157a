/-! LOAD: the topics of a reviewer -/
theorem tw_step {N : Nat} (hN : 801 < N) {T : Nat → Nat} {len b : Nat} {X Y : Mem} (hX : TX T len X) (hY : TY T len Y) (h : Bo T len b X Y) :
    ∃ X' Y', f_X8_readTopicsWord N X = some X' ∧ (∀ K : Mem → Option Mem, (if (gI Y 95 11) = 0 then b2 (f_X10_takes N (295271344 : Int64) Y) (fun r_21 m_21 => (if r_21 = 0 then b1 (f_X10_wrong N (1 : Int32) (gI m_21 95 8) m_21) (fun m_22 => K m_22) else K m_21)) else K Y) = K Y') ∧ FrT X X' ∧ FrY Y Y' ∧ Bo T len b X' Y' ∧ (gI Y' 95 11 = 0 → gI Y 95 11 = 0) := by
  obtain ⟨c, Y1, a1, a2, a3, a4, a5⟩ := takes_step hN (k := 2) (W := 295271344) hX hY h (by omega) (by decide +kernel)
  unfold f_X8_readTopicsWord
  rw [b2_of a1]
  by_cases h11 : gI Y 95 11 = 0
  · rcases a5 with ⟨rfl, b2, b3⟩ | ⟨rfl, X', b1', b2, b3⟩
    · obtain ⟨s, q1, q2, q3⟩ := b3 h11
      obtain ⟨X', Y', p1, p2, p3, p4, p5⟩ := both_fail N (v := 1) (by decide) q2.1 q2.2.1 (show gI Y1 95 11 = 0 by rw [a4]; exact h11)
      refine ⟨X', Y', by rw [if_pos rfl, b1_of p1], fun K => ?_, p3, a3.trans p4, Or.inr p5, fun _ => h11⟩
      rw [if_pos h11, b2_of a2, if_pos rfl, q3, b1_of p2]
    · refine ⟨X', Y1, by rw [if_neg (by decide), b1_of b1'], fun K => ?_, b2, a3, b3, fun _ => h11⟩
      rw [if_pos h11, b2_of a2, if_neg (by decide)]
  · have hB : BadR X Y := h.elim (fun ⟨s, _, hg⟩ => absurd hg.2.2.2.2.1 h11) id
    obtain ⟨X', q1, q2, q3⟩ := c_failB N (v := 1) hB
    have hc : c = 0 := by
      have := a1.symm.trans (c_noWord hB.2.2.2.2)
      rw [Option.some.injEq, Prod.mk.injEq] at this
      exact this.1
    subst hc
    refine ⟨X', Y, by rw [if_pos rfl, b1_of q1], fun K => by rw [if_neg h11], q2, FrY.refl Y, Or.inr q3, id⟩
theorem or7 {q n : Nat} (hq : q < 256) (hn : n ≤ 7) : q ||| 2 ^ n < 256 := by
  have : (2 : Nat) ^ n < 2 ^ 8 := Nat.pow_lt_pow_right (by omega) (by omega)
  exact Nat.or_lt_two_pow (n := 8) hq this
theorem t_loop {N : Nat} (hN : 801 < N) {T : Nat → Nat} {len b S : Nat} (w v1 : Int32) : ∀ d n n' i vc vm X Y, TX T len X → TY T len Y → 1 ≤ i → i ≤ 800 → Bo T len b X Y → (∀ s, GoodR T len s X Y → len - s ≤ d ∧ i ≤ s) → d + 1 < n → d + 2 < n' → (gI Y 95 11 = 0 → vc = vm ∧ ∃ q, q < 256 ∧ vc = nI q) →
    ∃ vc' vm' X' Y', L_X8_readReviewer_73 N n S w vc (nI i) X = some (S, w, vc', X') ∧ L_X10_reviewerLine_110 N n' v1 vm Y = some (v1, vm', Y') ∧ FrT X X' ∧ FrY Y Y' ∧ (Bo T len b X' Y' ∨ Semi T len X' Y') ∧ (gI Y' 95 11 = 0 → gI Y 95 11 = 0 ∧ vc' = vm' ∧ ∃ q, q < 256 ∧ vc' = nI q) := by
  intro d
  induction d with
  | zero =>
    intro n n' i vc vm X Y hX hY hi hi8 h hs hn hn' hv
    obtain ⟨n, rfl⟩ : ∃ k, n = k + 1 := ⟨n - 1, by omega⟩
    obtain ⟨n', rfl⟩ : ∃ k, n' = k + 1 := ⟨n' - 1, by omega⟩
    have hl := hX.1
    have cstop : ¬ gI X 1 4 = 3 → L_X8_readReviewer_73 N (n + 1) S w vc (nI i) X = some (S, w, vc, X) := by
      intro h4
      show T_X8_readReviewer_73 N (L_X8_readReviewer_73 N n) _ _ _ _ _ = _
      unfold T_X8_readReviewer_73
      by_cases h8 : (800 : Int32) ≤ nI i
      · rw [if_pos h8]
      · rw [if_neg h8, if_neg (show ¬ nI i = 0 from fun q => by have := (nI_eq (b := 0) (by omega) (by omega)).mp q; omega), if_neg h4]
    rcases h with ⟨s, hb, hG⟩ | hB
    · have hz := (hs s hG).1
      have hG' := hG
      obtain ⟨hC, g2, g9, g3, g11, a, ha1, ha2, ha3⟩ := hG
      obtain ⟨Y1, y1, y2, y3, y4⟩ := m_here hN hY ha2 ha1
      rw [ha3] at y1 y4
      have c1 := hC.1
      have e : s = len := by omega
      have hkd : kdT T len s = 0 := by
        unfold kdT
        rw [if_pos e]
      refine ⟨vc, vm, X, Y1, cstop (by rw [hC.2.2.2.1, hkd]; decide), ?_, FrT.refl X, y2, Or.inl (Or.inl ⟨s, hb, hC, g2, by rw [y3 9 (by omega)]; exact g9, by rw [y3 10 (by omega)]; exact g3, by rw [y3 11 (by omega)]; exact g11, s, c1, y4, sk_self c1 hC.2.1⟩), fun _ => ⟨g11, hv g11⟩⟩
      show T_X10_reviewerLine_110 N (L_X10_reviewerLine_110 N n') _ _ _ = _
      unfold T_X10_reviewerLine_110
      rw [if_pos g11, b2_of y1, if_pos e, b2_of (show f_X10_in N (-1) 48 57 Y1 = some (0, Y1) from rfl), if_pos rfl]
    · refine ⟨vc, vm, X, Y, cstop (by rw [hB.2.2.2.2]; decide), ?_, FrT.refl X, FrY.refl Y, Or.inl (Or.inr hB), fun q => absurd (q.symm.trans hB.2.2.2.1) (by decide)⟩
      show T_X10_reviewerLine_110 N (L_X10_reviewerLine_110 N n') _ _ _ = _
      unfold T_X10_reviewerLine_110
      rw [if_neg (by rw [hB.2.2.2.1]; decide)]
  | succ d ih =>
    intro n n' i vc vm X Y hX hY hi hi8 h hs hn hn' hv
    obtain ⟨n, rfl⟩ : ∃ k, n = k + 1 := ⟨n - 1, by omega⟩
    obtain ⟨n', rfl⟩ : ∃ k, n' = k + 1 := ⟨n' - 1, by omega⟩
    have hl := hX.1
    have cstop : ¬ gI X 1 4 = 3 → L_X8_readReviewer_73 N (n + 1) S w vc (nI i) X = some (S, w, vc, X) := by
      intro h4
      show T_X8_readReviewer_73 N (L_X8_readReviewer_73 N n) _ _ _ _ _ = _
      unfold T_X8_readReviewer_73
      by_cases h8 : (800 : Int32) ≤ nI i
      · rw [if_pos h8]
      · rw [if_neg h8, if_neg (show ¬ nI i = 0 from fun q => by have := (nI_eq (b := 0) (by omega) (by omega)).mp q; omega), if_neg h4]
    rcases h with ⟨s, hb, hG⟩ | hB
    · have hz := hs s hG
      have hG' := hG
      obtain ⟨hC, g2, g9, g3, g11, a, ha1, ha2, ha3⟩ := hG
      obtain ⟨Y1, y1, y2, y3, y4⟩ := m_here hN hY ha2 ha1
      rw [ha3] at y1 y4
      have c1 := hC.1
      have hY1 := hY.keep y2
      have hG1 : GoodR T len s X Y1 := ⟨hC, g2, by rw [y3 9 (by omega)]; exact g9, by rw [y3 10 (by omega)]; exact g3, by rw [y3 11 (by omega)]; exact g11, s, c1, y4, sk_self c1 hC.2.1⟩
      have z11 := hG1.2.2.2.2.1
      by_cases hdig : s < len ∧ kk (T s) = 3
      · obtain ⟨hsl, hk3⟩ := hdig
        have hkk := kk3 hk3
        have hin : f_X10_in N (if s = len then -1 else nI (T s)) 48 57 Y1 = some (1, Y1) := by
          rw [if_neg (show ¬ s = len by omega), show f_X10_in N (nI (T s)) 48 57 Y1 = _ from m_in N (lo := 48) (hi := 57) (by omega) (by omega) (by omega) Y1, if_pos hkk]
        obtain ⟨v, v', X2, Y2, e1, e2, e3, e4, e5, e6, e7⟩ := n_step hN 0 7 hX hY1 (b := s) (Or.inl ⟨s, Nat.le_refl s, hG1⟩)
        have mm : L_X10_reviewerLine_110 N (n' + 1) v1 vm Y = L_X10_reviewerLine_110 N n' v1 (vm ||| ((1 : Int32) <<< (v' &&& 31))) Y2 := by
          show T_X10_reviewerLine_110 N (L_X10_reviewerLine_110 N n') _ _ _ = _
          unfold T_X10_reviewerLine_110
          rw [if_pos g11, b2_of y1, b2_of hin, if_neg (by decide), b2_of e2]
        rw [mm]
        by_cases hlong : 6 < rnk T len 3 s - s
        · -- too long: the class stops here, the model has failed
          have hkd : kdT T len s = 5 := by
            unfold kdT
            rw [if_neg (by omega), if_pos ⟨hk3, hlong⟩]
          have hbad : ¬ gI Y2 95 11 = 0 := by
            intro q
            obtain ⟨_, k, k1, k2, k3, k4, k5⟩ := e6 q
            have := e1
            unfold f_X8_readNumber at this
            rw [hC.2.2.2.1, hkd, if_neg (by decide)] at this
            obtain ⟨X3, f1, f2, f3, f4, f5⟩ := c_failG N (v := 1) g2
            rw [b1_of f1, Option.some.injEq, Prod.mk.injEq] at this
            have t := this.1.trans k2
            have := congrArg Int32.toInt t
            rw [nI_toInt (by omega), show ((-1 : Int32)).toInt = -1 from rfl] at this
            omega
          have hB2 : BadR X2 Y2 := e5.elim (fun ⟨_, _, hg⟩ => absurd hg.2.2.2.2.1 hbad) id
          obtain ⟨X3, f1, f2, f3, f4, f5⟩ := c_failG N (v := 1) g2
          have hX2 : X2 = X3 := by
            have := e1
            unfold f_X8_readNumber at this
            rw [hC.2.2.2.1, hkd, if_neg (by decide), b1_of f1, Option.some.injEq, Prod.mk.injEq] at this
            exact this.2.symm
          rw [← hX2] at f3 f4
          obtain ⟨n', rfl⟩ : ∃ k, n' = k + 1 := ⟨n' - 1, by omega⟩
          refine ⟨vc, (vm ||| ((1 : Int32) <<< (v' &&& 31))), X, Y2, cstop (by rw [hC.2.2.2.1, hkd]; decide), ?_, FrT.refl X, y2.trans e4, Or.inr ⟨s, hC, g2, hkd, by rw [← hB2.2.1, f3], by rw [← hB2.2.2.1, f4]; exact hC.2.2.1, hB2.2.2.2.1⟩, fun q => absurd q hbad⟩
          show T_X10_reviewerLine_110 N (L_X10_reviewerLine_110 N n') _ _ _ = _
          unfold T_X10_reviewerLine_110
          rw [if_neg hbad]
        · have hkd : kdT T len s = 3 := by
            unfold kdT
            rw [if_neg (by omega), if_neg (by omega)]
            exact hk3
          have cc : L_X8_readReviewer_73 N (n + 1) S w vc (nI i) X = if v = -1 then L_X8_readReviewer_73 N n S w vc (nI (i + 1)) X2 else L_X8_readReviewer_73 N n S w (vc ||| ((1 : Int32) <<< (v &&& 31))) (nI (i + 1)) X2 := by
            show T_X8_readReviewer_73 N (L_X8_readReviewer_73 N n) _ _ _ _ _ = _
            unfold T_X8_readReviewer_73 B_X8_readReviewer_94
            rw [if_neg (show ¬ (800 : Int32) ≤ nI i from nI_ge (b := 800) (by omega) (by omega)), if_neg (show ¬ nI i = 0 from fun q => by have := (nI_eq (b := 0) (by omega) (by omega)).mp q; omega), if_pos (by rw [hC.2.2.2.1, hkd]; rfl), b2_of e1, nI_1]
          rw [cc]
          have hlt : ∀ s', GoodR T len s' X2 Y2 → s < s' := by
            intro s' hg
            obtain ⟨w1, w2, X4, Y4, k1, k2, k3, k4, k5⟩ := s_number hN 0 7 hX hY1 (Or.inl ⟨s, hG1⟩)
            rw [e1, Option.some.injEq, Prod.mk.injEq] at k1
            rw [e2, Option.some.injEq, Prod.mk.injEq] at k2
            rw [← k1.2, ← k2.2] at k5
            rcases k5 with ⟨s1, s2, o1, o2, o3, _⟩ | ⟨o1, _⟩
            · have u1 := o1.1.2.2.1
              have u2 := hC.2.2.1
              have u3 := o2.1.2.2.1
              have u4 := hg.1.2.2.1
              have v1 := o1.1.1
              have v2 := o2.1.1
              have v3 := hg.1.1
              have r1 := (nI_eq (by omega) (by omega)).mp (u1.symm.trans u2)
              have r2 := (nI_eq (by omega) (by omega)).mp (u3.symm.trans u4)
              omega
            · exact absurd (hg.2.2.2.2.1.symm.trans o1.2.2.2.1) (by decide)
          have go : ∀ vc2, (gI Y2 95 11 = 0 → vc2 = (vm ||| ((1 : Int32) <<< (v' &&& 31))) ∧ ∃ q, q < 256 ∧ vc2 = nI q) → ∃ vc' vm' X' Y', L_X8_readReviewer_73 N n S w vc2 (nI (i + 1)) X2 = some (S, w, vc', X') ∧ L_X10_reviewerLine_110 N n' v1 (vm ||| ((1 : Int32) <<< (v' &&& 31))) Y2 = some (v1, vm', Y') ∧ FrT X X' ∧ FrY Y Y' ∧ (Bo T len b X' Y' ∨ Semi T len X' Y') ∧ (gI Y' 95 11 = 0 → gI Y 95 11 = 0 ∧ vc' = vm' ∧ ∃ q, q < 256 ∧ vc' = nI q) := by
            intro vc2 hv2
            obtain ⟨vc', vm', X', Y', o1, o2, o3, o4, o5, o6⟩ := ih n n' (i + 1) vc2 (vm ||| ((1 : Int32) <<< (v' &&& 31))) X2 Y2 (hX.keep e3) (hY1.keep e4) (by omega) (by omega) (e5.elim (fun ⟨s', q1, q2⟩ => Or.inl ⟨s', by omega, q2⟩) Or.inr) (fun s' hg => by have := hlt s' hg; have := hg.1.1; omega) (by omega) (by omega) hv2
            exact ⟨vc', vm', X', Y', o1, o2, e3.trans o3, (y2.trans e4).trans o4, o5, fun q => ⟨g11, (o6 q).2⟩⟩
          by_cases hb2 : gI Y2 95 11 = 0
          · obtain ⟨_, k, k1, k2, k3, k4, k5⟩ := e6 hb2
            have k7 : k ≤ 7 := (nI_leI (b := 7) (by omega) (by omega)).mp k5
            rw [if_neg (by rw [k2]; intro t; have := congrArg Int32.toInt t; rw [nI_toInt (by omega), show ((-1 : Int32)).toInt = -1 from rfl] at this; omega)]
            refine go _ (fun _ => ?_)
            obtain ⟨w1, q, w2, w3⟩ := hv g11
            rw [k2, k3, ← w1, w3, or_bit (by omega)]
            exact ⟨rfl, _, or7 w2 k7, rfl⟩
          · rw [if_pos (e7 hb2).1]
            exact go vc (fun q => absurd q hb2)
      · have hkd : ¬ kdT T len s = 3 := by
          unfold kdT
          by_cases e : s = len
          · rw [if_pos e]
            omega
          · rw [if_neg e]
            split
            · omega
            · exact fun q => hdig ⟨by omega, q⟩
        have hkl : kdT T len s ≤ 5 := by
          unfold kdT
          have := kk_b (T s)
          split
          · omega
          · split <;> omega
        have his : f_X10_in N (if s = len then -1 else nI (T s)) 48 57 Y1 = some (0, Y1) := by
          by_cases e : s = len
          · rw [if_pos e]
            rfl
          · have hb := hY.2.1 s (by omega)
            rw [if_neg e, show f_X10_in N (nI (T s)) 48 57 Y1 = _ from m_in N (lo := 48) (hi := 57) (by omega) (by omega) (by omega) Y1, if_neg (fun q => hdig ⟨by omega, kk3i.mpr q⟩)]
        refine ⟨vc, vm, X, Y1, cstop (by rw [hC.2.2.2.1]; exact fun q => hkd ((nI_eq (b := 3) (by omega) (by omega)).mp q)), ?_, FrT.refl X, y2, Or.inl (Or.inl ⟨s, hb, hG1⟩), fun _ => ⟨g11, hv g11⟩⟩
        show T_X10_reviewerLine_110 N (L_X10_reviewerLine_110 N n') _ _ _ = _
        unfold T_X10_reviewerLine_110
        rw [if_pos g11, b2_of y1, b2_of his, if_pos rfl]
    · refine ⟨vc, vm, X, Y, cstop (by rw [hB.2.2.2.2]; decide), ?_, FrT.refl X, FrY.refl Y, Or.inl (Or.inr hB), fun q => absurd (q.symm.trans hB.2.2.2.1) (by decide)⟩
      show T_X10_reviewerLine_110 N (L_X10_reviewerLine_110 N n') _ _ _ = _
      unfold T_X10_reviewerLine_110
      rw [if_neg (by rw [hB.2.2.2.1]; decide)]
