/-! LOAD: the lines, class against model -/
def SD (S : Nat) (X Y : Mem) : Prop := ToldOK (gI Y 97) ∧ SetupOK (gI Y 97) (gI X S) (gI X (S + 1)) (gI X (S + 2)) (gI X (S + 3)) (gI X (S + 4)) (gI X (S + 5)) (gI X (S + 6)) (gI X (S + 7)) (gI X (S + 8)) (gI X (S + 9)) (gI X (S + 10)) (gI X (S + 11))
def FrA (S : Nat) (X X' : Mem) : Prop := (∀ k, k ≠ 1 → ¬ (S ≤ k ∧ k ≤ S + 11) → gI X' k = gI X k) ∧ gI X' 1 1 = gI X 1 1 ∧ (∀ k j, gR X' k j = gR X k j) ∧ (∀ k j, gJ X' k j = gJ X k j) ∧ (∀ k j, gD X' k j = gD X k j)
theorem FrA.trans {S : Nat} {a b c : Mem} (h : FrA S a b) (h' : FrA S b c) : FrA S a c := ⟨fun k hk q => (h'.1 k hk q).trans (h.1 k hk q), h'.2.1.trans h.2.1, fun k j => (h'.2.2.1 k j).trans (h.2.2.1 k j), fun k j => (h'.2.2.2.1 k j).trans (h.2.2.2.1 k j), fun k j => (h'.2.2.2.2 k j).trans (h.2.2.2.2 k j)⟩
theorem FrT.a {X X' : Mem} (S : Nat) (h : FrT X X') : FrA S X X' := ⟨fun k hk _ => h.1 k hk, h.2⟩
theorem FrA.s {S K j : Nat} (X : Mem) (v : Int32) (hS : 1 < S) (hK : S ≤ K ∧ K ≤ S + 11) : FrA S X (sI X K j v) := ⟨fun k hk q => sI_ne _ _ (by intro e; rw [e] at q; exact q hK), by rw [gI_sI, if_neg (by omega)], fun _ _ => rfl, fun _ _ => rfl, fun _ _ => rfl⟩
def FrB (Y Y' : Mem) : Prop := (∀ k, k ≠ 95 → k ≠ 97 → gI Y' k = gI Y k) ∧ (∀ j, ¬ (8 ≤ j ∧ j ≤ 11) → gI Y' 95 j = gI Y 95 j) ∧ (∀ k j, gR Y' k j = gR Y k j) ∧ (∀ k j, gJ Y' k j = gJ Y k j) ∧ (∀ k j, gD Y' k j = gD Y k j)
theorem FrB.trans {a b c : Mem} (h : FrB a b) (h' : FrB b c) : FrB a c := ⟨fun k hk q => (h'.1 k hk q).trans (h.1 k hk q), fun j hj => (h'.2.1 j hj).trans (h.2.1 j hj), fun k j => (h'.2.2.1 k j).trans (h.2.2.1 k j), fun k j => (h'.2.2.2.1 k j).trans (h.2.2.2.1 k j), fun k j => (h'.2.2.2.2 k j).trans (h.2.2.2.2 k j)⟩
theorem FrY.b {X X' : Mem} (h : FrY X X') : FrB X X' := ⟨fun k hk _ => h.1 k hk, h.2⟩
theorem FrB.s (Y : Mem) (j : Nat) (v : Int32) : FrB Y (sI Y 97 j v) := ⟨fun k hk q => sI_ne _ _ q, fun j' _ => by rw [gI_sI, if_neg (by omega)], fun _ _ => rfl, fun _ _ => rfl, fun _ _ => rfl⟩
theorem TX.a {T : Nat → Nat} {len S : Nat} {X X' : Mem} (hS : 1 < S ∧ 2 < S) (h : TX T len X) (e : FrA S X X') : TX T len X' := ⟨h.1, h.2.1, by rw [e.2.1]; exact h.2.2.1, fun i hi => by rw [e.1 2 (by omega) (by omega)]; exact h.2.2.2 i hi⟩
theorem TY.b {T : Nat → Nat} {len : Nat} {X X' : Mem} (h : TY T len X) (e : FrB X X') : TY T len X' := ⟨h.1, h.2.1, by rw [e.2.1 7 (by omega)]; exact h.2.2.1, fun i hi => by rw [e.1 100 (by omega) (by omega)]; exact h.2.2.2 i hi⟩
theorem SD.eq {S : Nat} {X Y X' Y' : Mem} (h : SD S X Y) (hS : 1 < S) (e : ∀ k, k ≠ 1 → gI X' k = gI X k) (f : gI Y' 97 = gI Y 97) : SD S X' Y' := by
  unfold SD at h ⊢
  rw [f, e S (by omega), e (S + 1) (by omega), e (S + 2) (by omega), e (S + 3) (by omega), e (S + 4) (by omega), e (S + 5) (by omega), e (S + 6) (by omega), e (S + 7) (by omega), e (S + 8) (by omega), e (S + 9) (by omega), e (S + 10) (by omega), e (S + 11) (by omega)]
  exact h
def LnOK (T : Nat → Nat) (len s S : Nat) (X Y X' Y' : Mem) : Prop := FrA S X X' ∧ FrB Y Y' ∧ (Bo T len s X' Y' ∨ Semi T len X' Y') ∧ (gI Y' 95 11 = 0 → SD S X' Y')
theorem Bo.le {T : Nat → Nat} {len b b' : Nat} {X Y : Mem} (h : Bo T len b X Y) (hb : b' ≤ b) : Bo T len b' X Y := h.elim (fun ⟨s, q1, q2⟩ => Or.inl ⟨s, by omega, q2⟩) Or.inr
theorem GoodR.uniq {T : Nat → Nat} {len s s' : Nat} {X Y Y' : Mem} (hl : len ≤ 800) (h : GoodR T len s X Y) (h' : GoodR T len s' X Y') : s = s' := by
  have u1 := h.1.2.2.1
  have u2 := h'.1.2.2.1
  have v1 := h.1.1
  have v2 := h'.1.1
  exact (nI_eq (by omega) (by omega)).mp (u1.symm.trans u2)
theorem lt_le1 {n c : Nat} (hn : n < 2 ^ 31) (hc : c < 2 ^ 31) (h : nI n ≤ nI c - 1) : n < c := by
  by_cases h0 : c = 0
  · rw [h0, show nI 0 - 1 = Int32.ofInt (-1) from rfl, Int32.le_iff_toInt_le, nI_toInt hn, show (Int32.ofInt (-1)).toInt = -1 from rfl] at h
    omega
  · rw [show (1 : Int32) = nI 1 from rfl, nI_sub (by omega)] at h
    have := (nI_leI hn (by omega)).mp h
    omega
theorem ne_m1 {n : Nat} (hn : n < 2 ^ 31) : ¬ nI n = -1 := fun t => by
  have := congrArg Int32.toInt t
  rw [nI_toInt hn, show ((-1 : Int32)).toInt = -1 from rfl] at this
  omega
theorem sI_at (m : Mem) (k j : Nat) (v : Int32) (x : Nat) : gI (sI m k j v) k x = if x = j then v else gI m k x := by
  rw [gI_sI]
  by_cases h : x = j
  · rw [if_pos h, if_pos ⟨rfl, h⟩]
  · rw [if_neg h, if_neg (fun q => h q.2)]
/-- a number is read and kept -/
theorem nw {N : Nat} (hN : 801 < N) {T : Nat → Nat} {len b S : Nat} (hS : S = 71 ∨ S = 83) (K j i : Nat) (hK : S ≤ K ∧ K ≤ S + 11) (lo hi : Int32) {X Y : Mem} (hX : TX T len X) (hY : TY T len Y) (h : Bo T len b X Y) :
    ∃ v v' X1 Y1 X' Y', f_X8_readNumber N lo hi X = some (v, X1) ∧ f_X10_number N lo hi Y = some (v', Y1) ∧ sI X1 K j v = X' ∧ sI Y1 97 i v' = Y' ∧ TX T len X' ∧ TY T len Y' ∧ Bo T len b X' Y' ∧ FrA S X X' ∧ FrB Y Y' ∧ (∀ k, k ≠ 1 → k ≠ K → gI X' k = gI X k) ∧ (∀ x, gI X' K x = if x = j then v else gI X K x) ∧ (∀ x, gI Y' 97 x = if x = i then v' else gI Y 97 x) ∧ (gI Y' 95 11 = 0 → gI Y 95 11 = 0 ∧ ∃ n, n < 1000000 ∧ v = nI n ∧ v' = nI n ∧ lo ≤ nI n ∧ nI n ≤ hi) := by
  obtain ⟨v, v', X1, Y1, a1, a2, a3, a4, a5, a6, a7⟩ := n_step hN lo hi hX hY h
  have u1 : FrA S X (sI X1 K j v) := (a3.a S).trans (FrA.s X1 v (by omega) hK)
  have u2 : FrB Y (sI Y1 97 i v') := a4.b.trans (FrB.s Y1 i v')
  refine ⟨v, v', X1, Y1, _, _, a1, a2, rfl, rfl, hX.a (by omega) u1, hY.b u2, a5.eq (sI_ne _ _ (by omega)) (sI_ne _ _ (by omega)), u1, u2, fun k q1 q2 => by rw [sI_ne _ _ q2]; exact a3.1 k q1, fun x => by rw [sI_at, a3.1 K (by omega)], fun x => by rw [sI_at, a4.1 97 (by omega)], fun q => a6 ?_⟩
  rw [sI_ne _ _ (by omega)] at q
  exact q
theorem m_addsY {N : Nat} (hN : 801 < N) {T : Nat → Nat} {len s i L p : Nat} {Y : Mem} (hY : TY T len Y) (h8 : gI Y 95 8 = nI s) (hs : s ≤ len) (hi : i < 151) (hp : gI Y 97 i = nI p) (hpL : p < L) (hL : L < 2 ^ 31) : f_X10_adds N (nI i) (nI L) Y = some (1, sI Y 95 8 (nI (rnk T len 2 s))) := by
  unfold f_X10_adds
  rw [gd_t (inb_nI (by omega) (by omega)), nI_clamp (by omega), hp, if_neg (fun q => by have := (nI_eq (by omega) (by omega)).mp q; omega), b2_of (m_wordEnd hN hY h8 hs), wr_eq]
theorem hd {N : Nat} (hN : 801 < N) {T : Nat → Nat} {len s k i L p : Nat} {X Y : Mem} (hX : TX T len X) (hY : TY T len Y) (h : GoodR T len s X Y) (hk : k < 10) (hw : isW T len s k = true) (h8 : gI Y 95 8 = nI s) (hi : i < 151) (hp : gI Y 97 i = nI p) (hpL : p < L) (hL : L < 2 ^ 31) :
    ∃ X1 Y1, f_X8_nextToken N X = some X1 ∧ f_X10_adds N (nI i) (nI L) Y = some (1, Y1) ∧ FrT X X1 ∧ FrY Y Y1 ∧ Bo T len (s + 1) X1 Y1 := by
  obtain ⟨X1, e, a1, a2, a3, a4, s', a5, a6⟩ := w_step hN hX hY h hk hw h8
  refine ⟨X1, _, a1, m_addsY hN hY h8 h.1.1 hi hp hpL hL, a2, ?_, Or.inl ⟨s', by omega, ?_⟩⟩
  · exact FrY.s Y (by omega)
  · have := (m_wordEnd hN hY h8 h.1.1).symm.trans a3
    rw [Option.some.injEq, Prod.mk.injEq] at this
    rw [this.1]
    exact a6
theorem hd_full {N : Nat} {T : Nat → Nat} {len s i L : Nat} {X Y : Mem} (h : GoodR T len s X Y) (h8 : gI Y 95 8 = nI s) (hi : i < 151) (hp : gI Y 97 i = nI L) :
    ∃ X' Y', f_X8_fail N 3 X = some X' ∧ f_X10_adds N (nI i) (nI L) Y = some (0, Y') ∧ FrT X X' ∧ FrY Y Y' ∧ BadR X' Y' := by
  obtain ⟨X', Y', a1, a2, a3, a4, a5⟩ := both_fail N (v := 3) (by decide) h.1 h.2.1 h.2.2.2.2.1
  refine ⟨X', Y', a1, ?_, a3, a4, a5⟩
  unfold f_X10_adds
  rw [gd_t (inb_nI (by omega) (by omega)), nI_clamp (by omega), hp, if_pos rfl, h8, b1_of a2]
theorem ln_bad {T : Nat → Nat} {len s S : Nat} {X Y X' Y' : Mem} (u1 : FrT X X') (u2 : FrY Y Y') (h : BadR X' Y') : LnOK T len s S X Y X' Y' :=
  ⟨u1.a S, u2.b, Or.inl (Or.inr h), fun q => absurd (q.symm.trans h.2.2.2.1) (by decide)⟩
theorem ln_panel {N : Nat} (hN : 801 < N) {T : Nat → Nat} {len s S : Nat} {X Y : Mem} (hS : S = 71 ∨ S = 83) (hX : TX T len X) (hY : TY T len Y) (h : GoodR T len s X Y) (hw : isW T len s 0 = true) (h8 : gI Y 95 8 = nI s) (hD : SD S X Y) :
    ∃ X' Y', f_X8_readPanel N S X = some X' ∧ f_X10_panelLine N Y = some Y' ∧ LnOK T len s S X Y X' Y' := by
  have hD' := hD
  obtain ⟨d1, d2⟩ := hD
  have ht : gI Y 97 0 = nI (vN (gI Y 97 0)) := vN_eq (d1.1 0 (by omega))
  have hb := d1.2.1
  have hf : gI X S 0 = gI Y 97 0 := d2.1
  generalize hp : vN (gI Y 97 0) = p at *
  rw [ht] at hf
  unfold f_X8_readPanel f_X10_panelLine
  rw [gd_t (st_k hS), hf]
  by_cases hp4 : p < 4
  · obtain ⟨X1, Y1, a1, a2, a3, a4, a5⟩ := hd hN (i := 0) (L := 4) hX hY h (by omega) hw h8 (by omega) ht hp4 (by omega)
    have hX1 := hX.keep a3
    have hY1 := hY.keep a4
    obtain ⟨v, v', X2, Y2, X3, Y3, b1, b2', b3, b4, b5, b6, b7, b8, b9, b10, b11, b12, b13⟩ := nw hN hS (S + 1) p (7 + p) (by omega) 0 100000 hX1 hY1 a5
    have e0 : gI Y1 97 = gI Y 97 := a4.1 97 (by omega)
    rw [if_pos (show nI p < (4 : Int32) from (nI_ltI (b := 4) (by omega) (by omega)).mpr hp4), b1_of a1, b2_of b1, gd_t (st_ok hS (k := 3) (by omega) (by omega) hp4), st_rt hS (k := 3) (by omega) (by omega), nI_clamp (by omega), wr_eq, b3, wr_eq, nI_1, b2_of (show f_X10_adds N 0 4 Y = some (1, Y1) from a2), if_neg (by decide), b2_of b2', e0, ht, show (7 : Int32) + nI p = nI (7 + p) from nI_add 7 p, gd_t (inb_nI (by omega) (by omega)), nI_clamp (by omega), wr_eq, b4, wr_eq]
    have e1 : gI Y3 97 0 = nI p := by rw [b12, if_neg (by omega), e0]; exact ht
    rw [e1, nI_1]
    refine ⟨_, _, rfl, rfl, ((a3.a S).trans b8).trans (FrA.s X3 _ (by omega) (by omega)), (a4.b.trans b9).trans (FrB.s Y3 0 _), Or.inl ((b7.eq (sI_ne _ _ (by omega)) (sI_ne _ _ (by omega))).le (by omega)), fun q => ?_⟩
    rw [sI_ne _ _ (by omega)] at q
    obtain ⟨q1, n, n1, n2, n3, n4, n5⟩ := b13 q
    have n6 : n ≤ 100000 := (nI_leI (b := 100000) (by omega) (by omega)).mp n5
    have hx : ∀ k, k ≠ 1 → k ≠ S → k ≠ S + 1 → gI (sI X3 S 0 (nI (p + 1))) k = gI X k := fun k k1 k2 k3 => by rw [sI_ne _ _ k2, b10 k k1 k3, a3.1 k k1]
    unfold SD
    rw [hx (S + 2) (by omega) (by omega) (by omega), hx (S + 3) (by omega) (by omega) (by omega), hx (S + 4) (by omega) (by omega) (by omega), hx (S + 5) (by omega) (by omega) (by omega), hx (S + 6) (by omega) (by omega) (by omega), hx (S + 7) (by omega) (by omega) (by omega), hx (S + 8) (by omega) (by omega) (by omega), hx (S + 9) (by omega) (by omega) (by omega), hx (S + 10) (by omega) (by omega) (by omega), hx (S + 11) (by omega) (by omega) (by omega)]
    refine up_panel (p := p) (n := n) d1 d2 ht hp4 n6 (fun k k1 k2 => ?_) ?_ ?_ ?_ (fun k k1 => ?_) ?_ (fun j k1 => ?_)
    · rw [sI_at, if_neg k1, b12, if_neg k2, e0]
    · rw [sI_at, if_neg (by omega), b12, if_pos rfl, n3]
    · rw [sI_at, if_pos rfl]
    · rw [sI_at, if_pos rfl]
    · rw [sI_at, if_neg k1, b10 S (by omega) (by omega), a3.1 S (by omega)]
    · rw [sI_ne _ _ (by omega), b11, if_pos rfl, n2]
    · rw [sI_ne _ _ (by omega), b11, if_neg k1, a3.1 (S + 1) (by omega)]
  · have e4 : p = 4 := by omega
    rw [e4] at ht
    obtain ⟨X', Y', a1, a2, a3, a4, a5⟩ := hd_full (N := N) (i := 0) (L := 4) h h8 (by omega) ht
    rw [if_neg (show ¬ nI p < (4 : Int32) from fun q => hp4 ((nI_ltI (b := 4) (by omega) (by omega)).mp q)), b1_of a1, b2_of (show f_X10_adds N 0 4 Y = some (0, Y') from a2), if_pos rfl]
    exact ⟨X', Y', rfl, rfl, ln_bad a3 a4 a5⟩
