/-! LOAD: settings, conflicts, proposals -/
theorem ln_set {N : Nat} (hN : 801 < N) {T : Nat → Nat} {len s S k i j : Nat} (lo hi : Int32) {X Y : Mem} (hS : S = 71 ∨ S = 83) (hX : TX T len X) (hY : TY T len Y) (h : GoodR T len s X Y) (hk : k < 10) (hw : isW T len s k = true) (h8 : gI Y 95 8 = nI s) (hD : SD S X Y)
    (hij : ∀ n, n < 1000000 → lo ≤ nI n → nI n ≤ hi → (i = 3 ∧ j = 14 ∧ 1 ≤ n ∧ n ≤ 4) ∨ (i = 4 ∧ j = 16 ∧ n ≤ 100000) ∨ (i = 5 ∧ j = 17 ∧ n ≤ 100000) ∨ (i = 6 ∧ j = 15 ∧ n ≤ 99)) :
    ∃ v v' X1 X2 Y2 e X' Y', f_X8_nextToken N X = some X1 ∧ f_X8_readNumber N lo hi X1 = some (v, X2) ∧ sI X2 S j v = X' ∧ f_X10_wordEnd N Y = some (e, Y) ∧ f_X10_number N lo hi (sI Y 95 8 e) = some (v', Y2) ∧ sI Y2 97 i v' = Y' ∧ LnOK T len s S X Y X' Y' := by
  obtain ⟨X1, e, a1, a2, a3, a4, s', a5, a6⟩ := w_step hN hX hY h hk hw h8
  obtain ⟨v, v', X2, Y2, X3, Y3, b1, b2', b3, b4, b5, b6, b7, b8, b9, b10, b11, b12, b13⟩ := nw hN hS S j i (by omega) lo hi (hX.keep a2) (hY.keep a4) (Or.inl ⟨s', Nat.le_refl s', a6⟩)
  refine ⟨v, v', X1, X2, Y2, e, X3, Y3, a1, b1, b3, a3, b2', b4, (a2.a S).trans b8, a4.b.trans b9, Or.inl (b7.le (by omega)), fun q => ?_⟩
  obtain ⟨q1, n, n1, n2, n3, n4, n5⟩ := b13 q
  have e0 : gI (sI Y 95 8 e) 97 = gI Y 97 := a4.1 97 (by omega)
  have hx : ∀ k, k ≠ 1 → k ≠ S → gI X3 k = gI X k := fun k k1 k2 => by rw [b10 k k1 k2, a2.1 k k1]
  obtain ⟨d1, d2⟩ := hD
  unfold SD
  rw [hx (S + 1) (by omega) (by omega), hx (S + 2) (by omega) (by omega), hx (S + 3) (by omega) (by omega), hx (S + 4) (by omega) (by omega), hx (S + 5) (by omega) (by omega), hx (S + 6) (by omega) (by omega), hx (S + 7) (by omega) (by omega), hx (S + 8) (by omega) (by omega), hx (S + 9) (by omega) (by omega), hx (S + 10) (by omega) (by omega), hx (S + 11) (by omega) (by omega)]
  exact up_set d1 d2 (hij n n1 n4 n5) (fun k => by rw [b12, e0, n3]) (fun k => by rw [b11, a2.1 S (by omega), n2])
theorem ln_conf {N : Nat} (hN : 801 < N) {T : Nat → Nat} {len s S : Nat} {X Y : Mem} (hS : S = 71 ∨ S = 83) (hX : TX T len X) (hY : TY T len Y) (h : GoodR T len s X Y) (hw : isW T len s 5 = true) (h8 : gI Y 95 8 = nI s) (hD : SD S X Y) :
    ∃ X' Y', f_X8_readConflict N S X = some X' ∧ f_X10_conflictLine N Y = some Y' ∧ LnOK T len s S X Y X' Y' := by
  have hD' := hD
  obtain ⟨d1, d2⟩ := hD
  have ht1 : gI Y 97 1 = nI (vN (gI Y 97 1)) := vN_eq (d1.1 1 (by omega))
  have ht2 : gI Y 97 2 = nI (vN (gI Y 97 2)) := vN_eq (d1.1 2 (by omega))
  have hb1 := d1.2.2.1
  have hb2 := d1.2.2.2.1
  obtain ⟨X1, e, a1, a2, a3, a4, s', a5, a6⟩ := w_step hN hX hY h (by omega) hw h8
  have e0 : gI (sI Y 95 8 e) 97 = gI Y 97 := a4.1 97 (by omega)
  obtain ⟨v, v', X2, Y2, b1, b2', b3, b4, b5, b6, b7⟩ := n_step hN 0 (gI Y 97 1 - 1) (hX.keep a2) (hY.keep a4) (Or.inl ⟨s', Nat.le_refl s', a6⟩)
  obtain ⟨w, w', X3, Y3, c1, c2, c3, c4, c5, c6, c7⟩ := n_step hN 0 (gI Y 97 2 - 1) ((hX.keep a2).keep b3) ((hY.keep a4).keep b4) b5
  have f1 : gI X1 S 1 = gI Y 97 1 := by rw [a2.1 S (by omega)]; exact d2.2.1
  have f2 : gI X2 S 2 = gI Y 97 2 := by rw [b3.1 S (by omega), a2.1 S (by omega)]; exact d2.2.2.1
  have f3 : gI Y2 97 2 = gI Y 97 2 := by rw [b4.1 97 (by omega), e0]
  have u1 : FrT X X3 := (a2.trans b3).trans c3
  have u2 : FrY Y Y3 := (a4.trans b4).trans c4
  have hv' : ∃ x, x < 12 ∧ v' = nI x := by
    by_cases q : gI Y2 95 11 = 0
    · obtain ⟨_, n, n1, n2, n3, n4, n5⟩ := b6 q
      rw [ht1] at n5
      have := lt_le1 (by omega) (by omega) n5
      exact ⟨n, by omega, n3⟩
    · exact ⟨0, by omega, (b7 q).2⟩
  obtain ⟨x, x1, x2⟩ := hv'
  unfold f_X8_readConflict f_X10_conflictLine
  rw [b1_of a1, gd_t (st_k hS), f1, b2_of b1, f2, b2_of c1, b2_of a3, wr_eq, wr_eq, e0, b2_of b2', f3, b2_of c2, x2, show (139 : Int32) + nI x = nI (139 + x) from nI_add 139 x, gd_t (inb_nI (n := 151) (by omega) (by omega)), nI_clamp (n := 139 + x) (by omega), wr_eq]
  by_cases q : gI Y3 95 11 = 0
  · obtain ⟨q1, n, n1, n2, n3, n4, n5⟩ := c6 q
    obtain ⟨q2, n', m1, m2, m3, m4, m5⟩ := b6 q1
    have hxn : x = n' := (nI_eq (by omega) (by omega)).mp (x2.symm.trans m3)
    rw [ht1] at m5
    have l1 := lt_le1 (by omega) (by omega) m5
    rw [ht2] at n5
    have l2 := lt_le1 (by omega) (by omega) n5
    have hbit := d1.2.2.2.2.2.2.2.2.2.2.2 x x1
    have hold : gI Y 97 (139 + x) = nI (vN (gI Y 97 (139 + x))) := vN_eq (d1.1 (139 + x) (by omega))
    generalize hq : vN (gI Y 97 (139 + x)) = o at *
    have hco : gI X (S + 6) x = nI o := (d2.2.2.2.2.2.2.2.2.2.1 x x1).trans hold
    rw [m2, n2, ← hxn, if_neg (ne_m1 (by omega)), if_neg (ne_m1 (by omega)), gd_t (st_ok hS (k := 8) (by omega) (by omega) x1), st_rt hS (k := 8) (by omega) (by omega), nI_clamp (by omega), show S + (8 - 2) = S + 6 from rfl, u1.1 (S + 6) (by omega), hco, n3, u2.1 97 (by omega), hold, or_bit (by omega)]
    refine ⟨_, _, rfl, rfl, (u1.a S).trans (FrA.s _ _ (by omega) (by omega)), u2.b.trans (FrB.s _ _ _), Or.inl ((c5.eq (sI_ne _ _ (by omega)) (sI_ne _ _ (by omega))).le (by omega)), fun _ => ?_⟩
    have hx : ∀ y k, k ≠ 1 → k ≠ S + 6 → gI (sI X3 (S + 6) x y) k = gI X k := fun y k k1 k2 => by rw [sI_ne _ _ k2, u1.1 k k1]
    have l3 : o ||| 2 ^ n < 65536 := Nat.or_lt_two_pow (n := 16) hbit.1 (Nat.pow_lt_pow_right (by omega) (by omega))
    unfold SD
    rw [hx _ S (by omega) (by omega), hx _ (S + 1) (by omega) (by omega), hx _ (S + 2) (by omega) (by omega), hx _ (S + 3) (by omega) (by omega), hx _ (S + 4) (by omega) (by omega), hx _ (S + 5) (by omega) (by omega), hx _ (S + 7) (by omega) (by omega), hx _ (S + 8) (by omega) (by omega), hx _ (S + 9) (by omega) (by omega), hx _ (S + 10) (by omega) (by omega), hx _ (S + 11) (by omega) (by omega)]
    exact up_conf (p := x) d1 d2 (by omega) l3 (fun k k1 => by rw [sI_at, if_neg k1, u2.1 97 (by omega)]) (by rw [sI_at, if_pos rfl]) (by rw [sI_at, if_pos rfl]) (fun j k1 => by rw [sI_at, if_neg k1, u1.1 (S + 6) (by omega)])
  · rw [(c7 q).1]
    have hcl : ∀ A : Option Mem, (if v = -1 then some X3 else if (-1 : Int32) = -1 then some X3 else A) = some X3 := fun A => by
      split
      · rfl
      · rw [if_pos rfl]
    rw [hcl]
    refine ⟨_, _, rfl, rfl, u1.a S, u2.b.trans (FrB.s _ _ _), Or.inl ((c5.eq rfl (sI_ne _ _ (by omega))).le (by omega)), fun q' => absurd ?_ q⟩
    rw [sI_ne _ _ (by omega)] at q'
    exact q'
theorem ln_prop {N : Nat} (hN : 801 < N) {T : Nat → Nat} {len s S : Nat} {X Y : Mem} (hS : S = 71 ∨ S = 83) (hX : TX T len X) (hY : TY T len Y) (h : GoodR T len s X Y) (hw : isW T len s 3 = true) (h8 : gI Y 95 8 = nI s) (hD : SD S X Y) :
    ∃ X' Y', f_X8_readProposal N S X = some X' ∧ f_X10_proposalLine N Y = some Y' ∧ LnOK T len s S X Y X' Y' := by
  have hD' := hD
  obtain ⟨d1, d2⟩ := hD
  have ht : gI Y 97 2 = nI (vN (gI Y 97 2)) := vN_eq (d1.1 2 (by omega))
  have ht0 : gI Y 97 0 = nI (vN (gI Y 97 0)) := vN_eq (d1.1 0 (by omega))
  have hb := d1.2.2.2.1
  have hb0 := d1.2.1
  have hf : gI X S 2 = gI Y 97 2 := d2.2.2.1
  have hf0 : gI X S 0 = gI Y 97 0 := d2.1
  generalize hp : vN (gI Y 97 2) = p at *
  rw [ht] at hf
  unfold f_X8_readProposal f_X10_proposalLine
  rw [gd_t (st_k hS), hf]
  by_cases hp4 : p < 16
  · obtain ⟨X1, Y1, a1, a2, a3, a4, a5⟩ := hd hN (i := 2) (L := 16) hX hY h (by omega) hw h8 (by omega) ht hp4 (by omega)
    have hX1 := hX.keep a3
    have hY1 := hY.keep a4
    have e0 : gI Y1 97 = gI Y 97 := a4.1 97 (by omega)
    have eS : ∀ k, k ≠ 1 → gI X1 k = gI X k := fun k hk => a3.1 k hk
    obtain ⟨v1, v1', X2, Y2, X3, Y3, b1, b2', b3, b4, b5, b6, b7, b8, b9, b10, b11, b12, b13⟩ := nw hN hS (S + 7) p (59 + 5 * p) (by omega) 0 (gI Y 97 0 - 1) hX1 hY1 a5
    obtain ⟨v2, v2', X4, Y4, X5, Y5, c1, c2, c3, c4, c5, c6, c7, c8, c9, c10, c11, c12, c13⟩ := nw hN hS (S + 8) p (60 + 5 * p) (by omega) 0 9 b5 b6 b7
    obtain ⟨v3, v3', X6, Y6, X7, Y7, g1, g2, g3, g4, g5, g6, g7, g8, g9, g10, g11, g12, g13⟩ := nw hN hS (S + 9) p (61 + 5 * p) (by omega) 0 7 c5 c6 c7
    obtain ⟨v4, v4', X8, Y8, X9, Y9, k1, k2, k3, k4, k5, k6, k7, k8, k9, k10, k11, k12, k13⟩ := nw hN hS (S + 10) p (62 + 5 * p) (by omega) 1 9999 g5 g6 g7
    have w5 : FrA S X9 (sI X9 (S + 11) p v4) := FrA.s X9 v4 (by omega) (by omega)
    have w6 : TX T len (sI X9 (S + 11) p v4) := k5.a (by omega) w5
    have w7 : Bo T len (s + 1) (sI X9 (S + 11) p v4) Y9 := k7.eq (sI_ne _ _ (by omega)) rfl
    have tot : FrA S X (sI X9 (S + 11) p v4) := (((((a3.a S).trans b8).trans c8).trans g8).trans k8).trans w5
    have totY : FrB Y Y9 := (((a4.b.trans b9).trans c9).trans g9).trans k9
    -- what the rows hold now
    have xo : ∀ k, k ≠ 1 → ¬ (S + 7 ≤ k ∧ k ≤ S + 10) → gI X9 k = gI X k := fun k q1 q2 => by rw [k10 k q1 (by omega), g10 k q1 (by omega), c10 k q1 (by omega), b10 k q1 (by omega), eS k q1]
    have x7 : ∀ x, gI X9 (S + 7) x = if x = p then v1 else gI X (S + 7) x := fun x => by rw [k10 _ (by omega) (by omega), g10 _ (by omega) (by omega), c10 _ (by omega) (by omega), b11, eS _ (by omega)]
    have x8 : ∀ x, gI X9 (S + 8) x = if x = p then v2 else gI X (S + 8) x := fun x => by rw [k10 _ (by omega) (by omega), g10 _ (by omega) (by omega), c11, b10 _ (by omega) (by omega), eS _ (by omega)]
    have x9 : ∀ x, gI X9 (S + 9) x = if x = p then v3 else gI X (S + 9) x := fun x => by rw [k10 _ (by omega) (by omega), g11, c10 _ (by omega) (by omega), b10 _ (by omega) (by omega), eS _ (by omega)]
    have x10 : ∀ x, gI X9 (S + 10) x = if x = p then v4 else gI X (S + 10) x := fun x => by rw [k11, g10 _ (by omega) (by omega), c10 _ (by omega) (by omega), b10 _ (by omega) (by omega), eS _ (by omega)]
    have yy : ∀ x, gI Y9 97 x = if x = 62 + 5 * p then v4' else if x = 61 + 5 * p then v3' else if x = 60 + 5 * p then v2' else if x = 59 + 5 * p then v1' else gI Y 97 x := fun x => by rw [k12, g12, c12, b12, e0]
    have f0 : gI X1 S 0 = gI Y 97 0 := by rw [eS S (by omega)]; exact hf0
    have i3 : (59 : Int32) + (5 : Int32) * nI p = nI (59 + 5 * p) := by rw [show (5 : Int32) = nI 5 from rfl, nI_mul, show (59 : Int32) = nI 59 from rfl, nI_add]
    have j0 : nI (59 + 5 * p) + (0 : Int32) = nI (59 + 5 * p) := nI_add (59 + 5 * p) 0
    have j1 : nI (59 + 5 * p) + (1 : Int32) = nI (60 + 5 * p) := (nI_add (59 + 5 * p) 1).trans (congrArg nI (by omega))
    have j2 : nI (59 + 5 * p) + (2 : Int32) = nI (61 + 5 * p) := (nI_add (59 + 5 * p) 2).trans (congrArg nI (by omega))
    have j3 : nI (59 + 5 * p) + (3 : Int32) = nI (62 + 5 * p) := (nI_add (59 + 5 * p) 3).trans (congrArg nI (by omega))
    have j4 : nI (59 + 5 * p) + (4 : Int32) = nI (63 + 5 * p) := (nI_add (59 + 5 * p) 4).trans (congrArg nI (by omega))
    -- the end of the line
    have fin : ∀ X' Y' (v5 v5' : Int32), Bo T len (s + 1) X' Y' → FrA S (sI X9 (S + 11) p v4) X' → FrB Y9 Y' → (∀ k, k ≠ 1 → k ≠ S + 11 → gI X' k = gI X9 k) → (∀ x, gI X' (S + 11) x = if x = p then v5 else gI X (S + 11) x) → (∀ x, gI Y' 97 x = if x = 63 + 5 * p then v5' else gI Y9 97 x) → (gI Y' 95 11 = 0 → gI Y9 95 11 = 0 ∧ (∀ d, d < 1000000 → 1 ≤ d → v4 = nI d → v4' = nI d → ∃ g, v5 = nI g ∧ v5' = nI g ∧ 1 ≤ g ∧ g ≤ d)) → LnOK T len s S X Y (sI X' S 2 (nI (p + 1))) (sI Y' 97 2 (nI (p + 1))) := by
      intro X' Y' v5 v5' h1 h2 h3 h4 h5 h6 h7
      refine ⟨(tot.trans h2).trans (FrA.s X' _ (by omega) (by omega)), (totY.trans h3).trans (FrB.s Y' 2 _), Or.inl ((h1.eq (sI_ne _ _ (by omega)) (sI_ne _ _ (by omega))).le (by omega)), fun q => ?_⟩
      rw [sI_ne _ _ (by omega)] at q
      obtain ⟨q9, hg⟩ := h7 q
      obtain ⟨q7, n4, n41, n42, n43, n44, n45⟩ := k13 q9
      obtain ⟨q5, n3, n31, n32, n33, n34, n35⟩ := g13 q7
      obtain ⟨q3, n2, n21, n22, n23, n24, n25⟩ := c13 q5
      obtain ⟨q1, n1, n11, n12, n13, n14, n15⟩ := b13 q3
      rw [ht0] at n15
      have l1 := lt_le1 (by omega) (by omega) n15
      have l2 : n2 ≤ 9 := (nI_leI (b := 9) (by omega) (by omega)).mp n25
      have l3 : n3 ≤ 7 := (nI_leI (b := 7) (by omega) (by omega)).mp n35
      have l4 : n4 ≤ 9999 := (nI_leI (b := 9999) (by omega) (by omega)).mp n45
      have l5 : 1 ≤ n4 := (nI_leI (a := 1) (by omega) (by omega)).mp n44
      obtain ⟨g, o1, o2, o3, o4⟩ := hg n4 n41 l5 n42 n43
      have hx : ∀ y k, k ≠ 1 → k ≠ S → ¬ (S + 7 ≤ k ∧ k ≤ S + 11) → gI (sI X' S 2 y) k = gI X k := fun y k q1 q2 q3 => by rw [sI_ne _ _ q2, h4 k q1 (by omega), xo k q1 (by omega)]
      unfold SD
      rw [hx _ (S + 1) (by omega) (by omega) (by omega), hx _ (S + 2) (by omega) (by omega) (by omega), hx _ (S + 3) (by omega) (by omega) (by omega), hx _ (S + 4) (by omega) (by omega) (by omega), hx _ (S + 5) (by omega) (by omega) (by omega), hx _ (S + 6) (by omega) (by omega) (by omega)]
      have zy : ∀ x, x ≠ 2 → gI (sI Y' 97 2 (nI (p + 1))) 97 x = if x = 63 + 5 * p then v5' else gI Y9 97 x := fun x hx => by rw [sI_at, if_neg hx, h6]
      have zx : ∀ k x, k ≠ 1 → k ≠ S → k ≠ S + 11 → gI (sI X' S 2 (nI (p + 1))) k x = gI X9 k x := fun k x q1 q2 q3 => by rw [sI_ne _ _ q2, h4 k q1 q3]
      refine up_prop (p := p) (a := n1) (b := n2) (c := n3) (d := n4) (g := g) d1 d2 ht hp4 (by omega) l2 l3 ⟨l5, l4⟩ ⟨o3, o4⟩ (fun k q1 q2 => ?_) ?_ ?_ ?_ ?_ ?_ ?_ ?_ (fun k q1 => ?_) ?_ ?_ ?_ ?_ ?_ (fun j q1 => ?_) (fun j q1 => ?_) (fun j q1 => ?_) (fun j q1 => ?_) (fun j q1 => ?_)
      · rw [zy k q1, if_neg (by omega), yy, if_neg (by omega), if_neg (by omega), if_neg (by omega), if_neg (by omega)]
      · rw [zy _ (by omega), if_neg (by omega), yy, if_neg (by omega), if_neg (by omega), if_neg (by omega), if_pos rfl, n13]
      · rw [zy _ (by omega), if_neg (by omega), yy, if_neg (by omega), if_neg (by omega), if_pos rfl, n23]
      · rw [zy _ (by omega), if_neg (by omega), yy, if_neg (by omega), if_pos rfl, n33]
      · rw [zy _ (by omega), if_neg (by omega), yy, if_pos rfl, n43]
      · rw [zy _ (by omega), if_pos rfl, o2]
      · rw [sI_at, if_pos rfl]
      · rw [sI_at, if_pos rfl]
      · rw [sI_at, if_neg q1, h4 S (by omega) (by omega), xo S (by omega) (by omega)]
      · rw [zx _ _ (by omega) (by omega) (by omega), x7, if_pos rfl, n12]
      · rw [zx _ _ (by omega) (by omega) (by omega), x8, if_pos rfl, n22]
      · rw [zx _ _ (by omega) (by omega) (by omega), x9, if_pos rfl, n32]
      · rw [zx _ _ (by omega) (by omega) (by omega), x10, if_pos rfl, n42]
      · rw [sI_ne _ _ (by omega), h5, if_pos rfl, o1]
      · rw [zx _ _ (by omega) (by omega) (by omega), x7, if_neg q1]
      · rw [zx _ _ (by omega) (by omega) (by omega), x8, if_neg q1]
      · rw [zx _ _ (by omega) (by omega) (by omega), x9, if_neg q1]
      · rw [zx _ _ (by omega) (by omega) (by omega), x10, if_neg q1]
      · rw [sI_ne _ _ (by omega), h5, if_neg q1]
    rw [if_pos (show nI p < (16 : Int32) from (nI_ltI (b := 16) (by omega) (by omega)).mpr hp4), b1_of a1, f0, b2_of b1, gd_t (st_ok hS (k := 9) (by omega) (by omega) hp4), st_rt hS (k := 9) (by omega) (by omega), nI_clamp (by omega), wr_eq, show S + (9 - 2) = S + 7 from rfl, b3, b2_of c1, gd_t (st_ok hS (k := 10) (by omega) (by omega) hp4), st_rt hS (k := 10) (by omega) (by omega), wr_eq, show S + (10 - 2) = S + 8 from rfl, c3, b2_of g1, gd_t (st_ok hS (k := 11) (by omega) (by omega) hp4), st_rt hS (k := 11) (by omega) (by omega), wr_eq, show S + (11 - 2) = S + 9 from rfl, g3, b2_of k1, gd_t (st_ok hS (k := 12) (by omega) (by omega) hp4), st_rt hS (k := 12) (by omega) (by omega), wr_eq, show S + (12 - 2) = S + 10 from rfl, k3, gd_t (st_ok hS (k := 13) (by omega) (by omega) hp4), st_rt hS (k := 13) (by omega) (by omega), wr_eq, show S + (13 - 2) = S + 11 from rfl]
    rw [b2_of (show f_X10_adds N 2 16 Y = some (1, Y1) from a2), if_neg (show ¬ (1 : Int32) = 0 by decide), e0, ht, i3, j0, j1, j2, j3, j4, b2_of b2', gd_t (inb_nI (by omega) (by omega)), nI_clamp (by omega), wr_eq, b4, b2_of c2, gd_t (inb_nI (by omega) (by omega)), nI_clamp (by omega), wr_eq, c4, b2_of g2, gd_t (inb_nI (by omega) (by omega)), nI_clamp (by omega), wr_eq, g4, b2_of k2, gd_t (inb_nI (by omega) (by omega)), nI_clamp (by omega), wr_eq, k4]
    obtain ⟨c, Yt, t1, t2, t3, t4, t5⟩ := takes_step hN (k := 4) (W := 6476969) w6 k6 w7 (by omega) (by decide +kernel)
    have eY : gI Yt 97 = gI Y9 97 := t3.1 97 (by omega)
    rw [b2_of t1, b2_of t2]
    unfold B_X8_readProposal_112 B_X10_proposalLine_131
    rcases t5 with ⟨rfl, t6, t7⟩ | ⟨rfl, Xt, t6, t7, t8⟩
    · rw [if_pos rfl, if_pos rfl, gd_t (st_k hS), wr_eq, nI_1, gd_t (inb_nI (by omega) (by omega)), nI_clamp (by omega), wr_eq, wr_eq, sI_at, if_neg (by omega), eY]
      have y2 : gI Y9 97 2 = nI p := by rw [yy, if_neg (by omega), if_neg (by omega), if_neg (by omega), if_neg (by omega)]; exact ht
      have y62 : gI Y9 97 (62 + 5 * p) = v4' := by rw [yy, if_pos rfl]
      rw [y2, y62, nI_1]
      refine ⟨_, _, rfl, rfl, fin _ _ v4 v4' (t6.eq rfl (sI_ne _ _ (by omega))) ⟨fun _ _ _ => rfl, rfl, fun _ _ => rfl, fun _ _ => rfl, fun _ _ => rfl⟩ (t3.b.trans (FrB.s _ _ _)) (fun k q1 q2 => sI_ne _ _ q2) (fun x => by rw [sI_at, xo (S + 11) (by omega) (by omega)]) (fun x => by rw [sI_at, eY]) (fun q => ⟨?_, fun d q1 q2 q3 q4 => ⟨d, q3, q4, q2, Nat.le_refl d⟩⟩)⟩
      rw [sI_ne _ _ (by omega), t4] at q
      exact q
    · have hfl : gI Y9 95 11 = 0 := by
        apply Classical.byContradiction
        intro q
        unfold f_X10_takes at t2
        rw [if_neg q, Option.some.injEq, Prod.mk.injEq] at t2
        exact absurd t2.1 (by decide)
      obtain ⟨q7, n4, n41, n42, n43, n44, n45⟩ := k13 hfl
      have y62 : gI Yt 97 (62 + 5 * p) = v4 := by rw [eY, yy, if_pos rfl, n43, n42]
      have l5 : 1 ≤ n4 := (nI_leI (a := 1) (by omega) (by omega)).mp n44
      obtain ⟨v5, v5', Xu, Yu, X', Y', r1, r2, r3, r4, r5, r6, r7, r8, r9, r10, r11, r12, r13⟩ := nw hN hS (S + 11) p (63 + 5 * p) (by omega) 1 v4 (w6.keep t7) (k6.keep t3) t8
      rw [if_neg (show ¬ (1 : Int32) = 0 by decide), if_neg (show ¬ (1 : Int32) = 0 by decide), b1_of t6, b2_of r1, wr_eq, r3, gd_t (st_k hS), wr_eq, nI_1, y62, b2_of r2, gd_t (inb_nI (by omega) (by omega)), nI_clamp (by omega), wr_eq, r4, wr_eq, r12, if_neg (by omega), eY, yy, if_neg (by omega), if_neg (by omega), if_neg (by omega), if_neg (by omega), ht, nI_1]
      refine ⟨_, _, rfl, rfl, fin X' Y' v5 v5' r7 ((t7.a S).trans r8) (t3.b.trans r9) (fun k q1 q2 => by rw [r10 k q1 q2, t7.1 k q1, sI_ne _ _ q2]) (fun x => ?_) (fun x => by rw [r12, eY]) (fun q => ⟨hfl, fun d q1 q2 q3 q4 => ?_⟩)⟩
      · rw [r11]
        by_cases q : x = p
        · rw [if_pos q, if_pos q]
        · rw [if_neg q, if_neg q, t7.1 _ (by omega), sI_at, if_neg q, xo _ (by omega) (by omega)]
      · obtain ⟨_, g, o1, o2, o3, o4, o5⟩ := r13 q
        rw [q3] at o5
        exact ⟨g, o2, o3, (nI_leI (a := 1) (by omega) (by omega)).mp o4, (nI_leI (by omega) (by omega)).mp o5⟩
  · have e4 : p = 16 := by omega
    rw [e4] at ht
    obtain ⟨X', Y', a1, a2, a3, a4, a5⟩ := hd_full (N := N) (i := 2) (L := 16) h h8 (by omega) ht
    rw [if_neg (show ¬ nI p < (16 : Int32) from fun q => hp4 ((nI_ltI (b := 16) (by omega) (by omega)).mp q)), b1_of a1, b2_of (show f_X10_adds N 2 16 Y = some (0, Y') from a2), if_pos rfl]
    exact ⟨X', Y', rfl, rfl, ln_bad a3 a4 a5⟩
