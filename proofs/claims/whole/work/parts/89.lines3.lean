/-! LOAD: reviewers; a whole line -/
theorem ln_rev {N : Nat} (hN : 1000 < N) {T : Nat → Nat} {len s S : Nat} {X Y : Mem} (hS : S = 71 ∨ S = 83) (hX : TX T len X) (hY : TY T len Y) (h : GoodR T len s X Y) (hw : isW T len s 1 = true) (h8 : gI Y 95 8 = nI s) (hD : SD S X Y) :
    ∃ X' Y', f_X8_readReviewer N S X = some X' ∧ f_X10_reviewerLine N Y = some Y' ∧ LnOK T len s S X Y X' Y' := by
  have hN' : 801 < N := by omega
  have hl := hX.1
  have hD' := hD
  obtain ⟨d1, d2⟩ := hD
  have ht : gI Y 97 1 = nI (vN (gI Y 97 1)) := vN_eq (d1.1 1 (by omega))
  have ht0 : gI Y 97 0 = nI (vN (gI Y 97 0)) := vN_eq (d1.1 0 (by omega))
  have hb := d1.2.2.1
  have hb0 := d1.2.1
  have hf : gI X S 1 = gI Y 97 1 := d2.2.1
  have hf0 : gI X S 0 = gI Y 97 0 := d2.1
  generalize hp : vN (gI Y 97 1) = p at *
  rw [ht] at hf
  unfold f_X8_readReviewer f_X10_reviewerLine
  rw [gd_t (st_k hS), hf]
  by_cases hp4 : p < 12
  · obtain ⟨X1, Y1, a1, a2, a3, a4, a5⟩ := hd hN' (i := 1) (L := 12) hX hY h (by omega) hw h8 (by omega) ht hp4 (by omega)
    have hX1 := hX.keep a3
    have hY1 := hY.keep a4
    have e0 : gI Y1 97 = gI Y 97 := a4.1 97 (by omega)
    have eS : ∀ k, k ≠ 1 → gI X1 k = gI X k := fun k hk => a3.1 k hk
    obtain ⟨v1, v1', X2, Y2, X3, Y3, b1, b2', b3, b4, b5, b6, b7, b8, b9, b10, b11, b12, b13⟩ := nw hN' hS (S + 2) p (11 + 4 * p) (by omega) 0 (gI Y 97 0 - 1) hX1 hY1 a5
    obtain ⟨v2, v2', X4, Y4, X5, Y5, c1, c2, c3, c4, c5, c6, c7, c8, c9, c10, c11, c12, c13⟩ := nw hN' hS (S + 3) p (12 + 4 * p) (by omega) 0 9 b5 b6 b7
    obtain ⟨v3, v3', X6, Y6, X7, Y7, g1, g2, g3, g4, g5, g6, g7, g8, g9, g10, g11, g12, g13⟩ := nw hN' hS (S + 4) p (13 + 4 * p) (by omega) 1 10 c5 c6 c7
    obtain ⟨X8, Y8, t1, t2, t3, t4, t5, t6⟩ := tw_step hN' g5 g6 g7
    have hX8 := g5.keep t3
    have hY8 := g6.keep t4
    obtain ⟨v4, v4', X9, Y9, k1, k2, k3, k4, k5, k6, k7⟩ := n_step hN' 0 7 hX8 hY8 t5
    have hX9 := hX8.keep k3
    have hY9 := hY8.keep k4
    -- the topics
    have lp : ∀ vc, (gI Y9 95 11 = 0 → vc = ((1 : Int32) <<< (v4' &&& 31)) ∧ ∃ q, q < 256 ∧ vc = nI q) → ∃ vc' vm' X' Y', L_X8_readReviewer_73 N (N - 1) S (nI p) vc (nI 1) X9 = some (S, nI p, vc', X') ∧ L_X10_reviewerLine_110 N N (nI (11 + 4 * p)) ((1 : Int32) <<< (v4' &&& 31)) Y9 = some (nI (11 + 4 * p), vm', Y') ∧ FrT X9 X' ∧ FrY Y9 Y' ∧ (Bo T len (s + 1) X' Y' ∨ Semi T len X' Y') ∧ (gI Y' 95 11 = 0 → gI Y9 95 11 = 0 ∧ vc' = vm' ∧ ∃ q, q < 256 ∧ vc' = nI q) := by
      intro vc hv
      refine t_loop hN' (nI p) (nI (11 + 4 * p)) len (N - 1) N 1 vc _ X9 Y9 hX9 hY9 (by omega) (by omega) k5 (fun s9 hg => ⟨by omega, ?_⟩) (by omega) (by omega) hv
      obtain ⟨s0, q1, q2⟩ := k5.good hg.2.2.2.2.1
      have := hg.uniq hl q2
      omega
    have lc : ∃ vc vc' vm' X' Y', L_X8_readReviewer_73 N N S (nI p) 0 0 X8 = some (S, nI p, vc', X') ∧ L_X10_reviewerLine_110 N N (nI (11 + 4 * p)) ((1 : Int32) <<< (v4' &&& 31)) Y9 = some (nI (11 + 4 * p), vm', Y') ∧ FrT X9 X' ∧ FrY Y9 Y' ∧ (Bo T len (s + 1) X' Y' ∨ Semi T len X' Y') ∧ (gI Y' 95 11 = 0 → gI Y9 95 11 = 0 ∧ vc' = vm' ∧ ∃ q, q < 256 ∧ vc' = nI q) ∧ vc = (0 : Int32) := by
      have st : L_X8_readReviewer_73 N N S (nI p) 0 0 X8 = if v4 = -1 then L_X8_readReviewer_73 N (N - 1) S (nI p) 0 (nI 1) X9 else L_X8_readReviewer_73 N (N - 1) S (nI p) (0 ||| ((1 : Int32) <<< (v4 &&& 31))) (nI 1) X9 := by
        have : L_X8_readReviewer_73 N N = T_X8_readReviewer_73 N (L_X8_readReviewer_73 N (N - 1)) := by
          obtain ⟨k, hk⟩ : ∃ k, N = k + 1 := ⟨N - 1, by omega⟩
          rw [show L_X8_readReviewer_73 N N = L_X8_readReviewer_73 N (N - 1 + 1) from congrArg (L_X8_readReviewer_73 N) (by omega)]
          rfl
        rw [this]
        unfold T_X8_readReviewer_73 B_X8_readReviewer_94
        rw [if_neg (by decide), if_pos rfl, b2_of k1]
        rfl
      rw [st]
      by_cases q : gI Y9 95 11 = 0
      · obtain ⟨_, n, n1, n2, n3, n4, n5⟩ := k6 q
        have n7 : n ≤ 7 := (nI_leI (b := 7) (by omega) (by omega)).mp n5
        rw [if_neg (by rw [n2]; exact ne_m1 (by omega))]
        obtain ⟨vc', vm', X', Y', o⟩ := lp (0 ||| ((1 : Int32) <<< (v4 &&& 31))) (fun _ => by
          rw [n2, n3, show (0 : Int32) = nI 0 from rfl, or_bit (by omega), shl1 n (by omega), Nat.zero_or]
          refine ⟨rfl, _, ?_, rfl⟩
          have := or7 (q := 0) (n := n) (by omega) n7
          rw [Nat.zero_or] at this
          exact this)
        exact ⟨0, vc', vm', X', Y', o.1, o.2.1, o.2.2.1, o.2.2.2.1, o.2.2.2.2.1, o.2.2.2.2.2, rfl⟩
      · rw [if_pos (k7 q).1]
        obtain ⟨vc', vm', X', Y', o⟩ := lp 0 (fun q' => absurd q' q)
        exact ⟨0, vc', vm', X', Y', o.1, o.2.1, o.2.2.1, o.2.2.2.1, o.2.2.2.2.1, o.2.2.2.2.2, rfl⟩
    obtain ⟨_, vc, vm, Xe, Ye, o1, o2, o3, o4, o5, o6, _⟩ := lc
    have f0 : gI X1 S 0 = gI Y 97 0 := by rw [eS S (by omega)]; exact hf0
    have i3 : (11 : Int32) + (4 : Int32) * nI p = nI (11 + 4 * p) := by rw [show (4 : Int32) = nI 4 from rfl, nI_mul, show (11 : Int32) = nI 11 from rfl, nI_add]
    have j0 : nI (11 + 4 * p) + (0 : Int32) = nI (11 + 4 * p) := nI_add (11 + 4 * p) 0
    have j1 : nI (11 + 4 * p) + (1 : Int32) = nI (12 + 4 * p) := (nI_add (11 + 4 * p) 1).trans (congrArg nI (by omega))
    have j2 : nI (11 + 4 * p) + (2 : Int32) = nI (13 + 4 * p) := (nI_add (11 + 4 * p) 2).trans (congrArg nI (by omega))
    have j3 : nI (11 + 4 * p) + (3 : Int32) = nI (14 + 4 * p) := (nI_add (11 + 4 * p) 3).trans (congrArg nI (by omega))
    rw [if_pos (show nI p < (12 : Int32) from (nI_ltI (b := 12) (by omega) (by omega)).mpr hp4), b1_of a1, f0, b2_of b1, gd_t (st_ok hS (k := 4) (by omega) (by omega) hp4), st_rt hS (k := 4) (by omega) (by omega), nI_clamp (n := p) (by omega), wr_eq, show S + (4 - 2) = S + 2 from rfl, b3, b2_of c1, gd_t (st_ok hS (k := 5) (by omega) (by omega) hp4), st_rt hS (k := 5) (by omega) (by omega), wr_eq, show S + (5 - 2) = S + 3 from rfl, c3, b2_of g1, gd_t (st_ok hS (k := 6) (by omega) (by omega) hp4), st_rt hS (k := 6) (by omega) (by omega), wr_eq, show S + (6 - 2) = S + 4 from rfl, g3, b1_of t1, l4_of o1]
    rw [b2_of (show f_X10_adds N 1 12 Y = some (1, Y1) from a2), if_neg (show ¬ (1 : Int32) = 0 by decide), e0, ht, i3, j0, j1, j2, b2_of b2', gd_t (inb_nI (by omega) (by omega)), nI_clamp (n := 11 + 4 * p) (by omega), wr_eq, b4, b2_of c2, gd_t (inb_nI (by omega) (by omega)), nI_clamp (n := 12 + 4 * p) (by omega), wr_eq, c4, b2_of g2, gd_t (inb_nI (by omega) (by omega)), nI_clamp (n := 13 + 4 * p) (by omega), wr_eq, g4, t2]
    unfold B_X8_readReviewer_122 B_X10_reviewerLine_100
    rw [gd_t (st_k hS), gd_t (st_ok hS (k := 7) (by omega) (by omega) hp4), st_rt hS (k := 7) (by omega) (by omega), nI_clamp (n := p) (by omega), wr_eq, show S + (7 - 2) = S + 5 from rfl, wr_eq, nI_1, b2_of k2, l3_of o2]
    unfold B_X10_reviewerLine_146
    rw [j3, gd_t (inb_nI (by omega) (by omega)), nI_clamp (n := 14 + 4 * p) (by omega), wr_eq, wr_eq, sI_at, if_neg (by omega)]
    -- what the rows hold now
    have xT : ∀ k, k ≠ 1 → gI Xe k = gI X7 k := fun k q => by rw [o3.1 k q, k3.1 k q, t3.1 k q]
    have yT : gI Ye 97 = gI Y7 97 := by rw [o4.1 97 (by omega), k4.1 97 (by omega), t4.1 97 (by omega)]
    have xo : ∀ k, k ≠ 1 → ¬ (S + 2 ≤ k ∧ k ≤ S + 4) → gI Xe k = gI X k := fun k q1 q2 => by rw [xT k q1, g10 k q1 (by omega), c10 k q1 (by omega), b10 k q1 (by omega), eS k q1]
    have x2 : ∀ x, gI Xe (S + 2) x = if x = p then v1 else gI X (S + 2) x := fun x => by rw [xT _ (by omega), g10 _ (by omega) (by omega), c10 _ (by omega) (by omega), b11, eS _ (by omega)]
    have x3 : ∀ x, gI Xe (S + 3) x = if x = p then v2 else gI X (S + 3) x := fun x => by rw [xT _ (by omega), g10 _ (by omega) (by omega), c11, b10 _ (by omega) (by omega), eS _ (by omega)]
    have x4 : ∀ x, gI Xe (S + 4) x = if x = p then v3 else gI X (S + 4) x := fun x => by rw [xT _ (by omega), g11, c10 _ (by omega) (by omega), b10 _ (by omega) (by omega), eS _ (by omega)]
    have yy : ∀ x, gI Ye 97 x = if x = 13 + 4 * p then v3' else if x = 12 + 4 * p then v2' else if x = 11 + 4 * p then v1' else gI Y 97 x := fun x => by rw [yT, g12, c12, b12, e0]
    have y1 : gI Ye 97 1 = nI p := by rw [yy, if_neg (by omega), if_neg (by omega), if_neg (by omega)]; exact ht
    rw [y1, nI_1]
    refine ⟨_, _, rfl, rfl, ((((((((a3.a S).trans b8).trans c8).trans g8).trans (t3.a S)).trans (k3.a S)).trans (o3.a S)).trans (FrA.s _ _ (by omega) (by omega))).trans (FrA.s _ _ (by omega) (by omega)), ((((((((a4.b).trans b9).trans c9).trans g9).trans t4.b).trans k4.b).trans o4.b).trans (FrB.s _ _ _)).trans (FrB.s _ _ _), ?_, fun q => ?_⟩
    · have ex : ∀ (y z : Int32), gI (sI (sI Xe (S + 5) p y) S 1 z) 1 = gI Xe 1 := fun y z => by rw [sI_ne _ _ (by omega), sI_ne _ _ (by omega)]
      have ey : ∀ (y z : Int32), gI (sI (sI Ye 97 (14 + 4 * p) y) 97 1 z) 95 = gI Ye 95 := fun y z => by rw [sI_ne _ _ (by omega), sI_ne _ _ (by omega)]
      exact o5.elim (fun q => Or.inl ((q.eq (ex _ _) (ey _ _)).le (by omega))) (fun q => Or.inr (q.eq (ex _ _) (ey _ _)))
    · rw [sI_ne _ _ (by omega), sI_ne _ _ (by omega)] at q
      obtain ⟨q9, w1, n4, w2, w3⟩ := o6 q
      obtain ⟨q8, _⟩ := k6 q9
      have q7 := t6 q8
      obtain ⟨q5, n3, n31, n32, n33, n34, n35⟩ := g13 q7
      obtain ⟨q3, n2, n21, n22, n23, n24, n25⟩ := c13 q5
      obtain ⟨q1, n1, n11, n12, n13, n14, n15⟩ := b13 q3
      rw [ht0] at n15
      have l1 := lt_le1 (by omega) (by omega) n15
      have l2 : n2 ≤ 9 := (nI_leI (b := 9) (by omega) (by omega)).mp n25
      have l3 : n3 ≤ 10 := (nI_leI (b := 10) (by omega) (by omega)).mp n35
      have l4 : 1 ≤ n3 := (nI_leI (a := 1) (by omega) (by omega)).mp n34
      have hx : ∀ y z k, k ≠ 1 → k ≠ S → ¬ (S + 2 ≤ k ∧ k ≤ S + 5) → gI (sI (sI Xe (S + 5) p y) S 1 z) k = gI X k := fun y z k q1 q2 q3 => by rw [sI_ne _ _ q2, sI_ne _ _ (by omega), xo k q1 (by omega)]
      have zx : ∀ y z k x, k ≠ 1 → k ≠ S → k ≠ S + 5 → gI (sI (sI Xe (S + 5) p y) S 1 z) k x = gI Xe k x := fun y z k x q1 q2 q3 => by rw [sI_ne _ _ q2, sI_ne _ _ q3]
      have zy : ∀ y z x, x ≠ 1 → gI (sI (sI Ye 97 (14 + 4 * p) y) 97 1 z) 97 x = if x = 14 + 4 * p then y else gI Ye 97 x := fun y z x hx => by rw [sI_at, if_neg hx, sI_at]
      unfold SD
      rw [hx _ _ (S + 1) (by omega) (by omega) (by omega), hx _ _ (S + 6) (by omega) (by omega) (by omega), hx _ _ (S + 7) (by omega) (by omega) (by omega), hx _ _ (S + 8) (by omega) (by omega) (by omega), hx _ _ (S + 9) (by omega) (by omega) (by omega), hx _ _ (S + 10) (by omega) (by omega) (by omega), hx _ _ (S + 11) (by omega) (by omega) (by omega)]
      refine up_rev (p := p) (a := n1) (b := n2) (c := n3) (d := n4) d1 d2 ht hp4 (by omega) l2 ⟨l4, l3⟩ w2 (fun k q1 q2 => ?_) ?_ ?_ ?_ ?_ ?_ ?_ (fun k q1 => ?_) ?_ ?_ ?_ ?_ (fun j q1 => ?_) (fun j q1 => ?_) (fun j q1 => ?_) (fun j q1 => ?_)
      · rw [zy _ _ k q1, if_neg (by omega), yy, if_neg (by omega), if_neg (by omega), if_neg (by omega)]
      · rw [zy _ _ _ (by omega), if_neg (by omega), yy, if_neg (by omega), if_neg (by omega), if_pos rfl, n13]
      · rw [zy _ _ _ (by omega), if_neg (by omega), yy, if_neg (by omega), if_pos rfl, n23]
      · rw [zy _ _ _ (by omega), if_neg (by omega), yy, if_pos rfl, n33]
      · rw [zy _ _ _ (by omega), if_pos rfl, ← w1, w3]
      · rw [sI_at, if_pos rfl]
      · rw [sI_at, if_pos rfl]
      · rw [sI_at, if_neg q1, sI_ne _ _ (by omega), xo S (by omega) (by omega)]
      · rw [zx _ _ _ _ (by omega) (by omega) (by omega), x2, if_pos rfl, n12]
      · rw [zx _ _ _ _ (by omega) (by omega) (by omega), x3, if_pos rfl, n22]
      · rw [zx _ _ _ _ (by omega) (by omega) (by omega), x4, if_pos rfl, n32]
      · rw [sI_ne _ _ (by omega), sI_at, if_pos rfl, w3]
      · rw [zx _ _ _ _ (by omega) (by omega) (by omega), x2, if_neg q1]
      · rw [zx _ _ _ _ (by omega) (by omega) (by omega), x3, if_neg q1]
      · rw [zx _ _ _ _ (by omega) (by omega) (by omega), x4, if_neg q1]
      · rw [sI_ne _ _ (by omega), sI_at, if_neg q1, xo _ (by omega) (by omega)]
  · have e4 : p = 12 := by omega
    rw [e4] at ht
    obtain ⟨X', Y', a1, a2, a3, a4, a5⟩ := hd_full (N := N) (i := 1) (L := 12) h h8 (by omega) ht
    rw [if_neg (show ¬ nI p < (12 : Int32) from fun q => hp4 ((nI_ltI (b := 12) (by omega) (by omega)).mp q)), b1_of a1, b2_of (show f_X10_adds N 1 12 Y = some (0, Y') from a2), if_pos rfl]
    exact ⟨X', Y', rfl, rfl, ln_bad a3 a4 a5⟩
