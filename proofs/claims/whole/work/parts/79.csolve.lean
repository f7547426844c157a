/-! THE CLASS'S MATCHING: ways, ends, exchanges -/
def CR (m : Mem) (pa : Int32) (F : Nat → Nat → Bool) (M : Mem) : Prop := (∀ r, r < nR m → gI M 54 r = nI (capM m r - dR F r)) ∧ (∀ p, p < nQ m → gI M 55 p = nI (eaM m pa p - dP F p))
def FrC2 (m M : Mem) : Prop := (∀ k, ¬ (51 ≤ k ∧ k ≤ 59) → gI M k = gI m k) ∧ (∀ k j, gR M k j = gR m k j) ∧ (∀ k j, gJ M k j = gJ m k j) ∧ (∀ k j, gD M k j = gD m k j)
theorem FrC2.refl (m : Mem) : FrC2 m m := ⟨fun _ _ => rfl, fun _ _ => rfl, fun _ _ => rfl, fun _ _ => rfl⟩
theorem FrC2.trans {x y z : Mem} (h : FrC2 x y) (h' : FrC2 y z) : FrC2 x z := ⟨fun k k1 => (h'.1 k k1).trans (h.1 k k1), fun k j => (h'.2.1 k j).trans (h.2.1 k j), fun k j => (h'.2.2.1 k j).trans (h.2.2.1 k j), fun k j => (h'.2.2.2 k j).trans (h.2.2.2 k j)⟩
theorem FrC2.s (m : Mem) {k j : Nat} {v : Int32} (hk : 51 ≤ k ∧ k ≤ 59) : FrC2 m (sI m k j v) := ⟨fun k' hk' => sI_ne _ _ (by omega), fun _ _ => rfl, fun _ _ => rfl, fun _ _ => rfl⟩
theorem FrP.c {m M : Mem} (h : FrP m M) : FrC2 m M := ⟨fun k hk => h.1 k (by omega), h.2.1, h.2.2.1, h.2.2.2⟩
theorem FrC2.core {m M : Mem} (h : FrC2 m M) : Core m M := by
  refine ⟨fun k hk => h.1 k (by omega), fun j _ => by rw [h.1 1 (by omega)], fun j hj => by rw [h.1 95 (by omega)], h.2.1 0 7, h.2.1 0 8, fun hc => ?_⟩
  unfold ChOK ChAt at *
  simp only [h.2.1]
  exact hc
theorem FrC2.v {m M : Mem} (h : FrC2 m M) : SV m M := ⟨h.1 96 (by omega), h.1 98 (by omega)⟩
theorem eaM_le {m : Mem} (hb : RelB m) (pa : Int32) (p : Nat) : eaM m pa p ≤ 4 := by
  have := hb.per
  unfold eaM
  split <;> omega
theorem capM_le {m : Mem} (hb : RelB m) (r : Nat) : capM m r ≤ 10 := by
  unfold capM
  split
  · rename_i h
    exact (hb.cap h).2
  · omega
theorem c_init {N : Nat} {m : Mem} {pa : Int32} {F : Nat → Nat → Bool} (hb : RelB m) (hQ16 : nQ m ≤ 16) : ∀ d n p M, p + d = nQ m → d < n → gI M 51 9 = nI (nQ m) → (∀ p, p < nQ m → gI M 55 p = nI (eaM m pa p - dP F p)) →
    ∃ M', L_X4_findPaths_27 N n (nI p) M = some M' ∧ FrX 58 58 M M' ∧ (∀ j, j < nQ m → p ≤ j → gI M' 58 j = zI (if srcF (eaM m pa) F j then 0 else FAR)) ∧ (∀ j, j < p → gI M' 58 j = gI M 58 j) := by
  intro d
  induction d with
  | zero =>
    intro n p M hd hn h9 h55
    obtain ⟨n, rfl⟩ : ∃ k, n = k + 1 := ⟨n - 1, by omega⟩
    refine ⟨M, ?_, FrX.refl _ _ M, fun j h1 h2 => by omega, fun j _ => rfl⟩
    show T_X4_findPaths_27 N (L_X4_findPaths_27 N n) _ _ = _
    unfold T_X4_findPaths_27
    rw [h9, if_pos (nI_le (by omega) (by omega))]
  | succ d ih =>
    intro n p M hd hn h9 h55
    obtain ⟨n, rfl⟩ : ∃ k, n = k + 1 := ⟨n - 1, by omega⟩
    have hea := eaM_le hb pa p
    have go : ∀ x : Int, x = (if srcF (eaM m pa) F p then 0 else FAR) → ∃ M', B_X4_findPaths_55 N (L_X4_findPaths_27 N n) (nI p) (zI x) (nI p) M = some M' ∧ FrX 58 58 M M' ∧ (∀ j, j < nQ m → p ≤ j → gI M' 58 j = zI (if srcF (eaM m pa) F j then 0 else FAR)) ∧ (∀ j, j < p → gI M' 58 j = gI M 58 j) := by
      intro x hx
      have u : FrX 58 58 M (sI M 58 p (zI x)) := ⟨fun k k1 _ => sI_ne _ _ k1, fun _ _ => rfl, fun _ _ => rfl, fun _ _ => rfl⟩
      obtain ⟨M', a1, a2, a3, a4⟩ := ih n (p + 1) (sI M 58 p (zI x)) (by omega) (by omega) (by rw [sI_ne _ _ (by omega)]; exact h9) (fun q hq => by rw [sI_ne _ _ (by omega)]; exact h55 q hq)
      refine ⟨M', ?_, u.trans a2, fun j h1 h2 => ?_, fun j h1 => ?_⟩
      · unfold B_X4_findPaths_55
        rw [gd_t (inb_nI (by omega) (by omega)), nI_clamp (by omega), wr_eq, nI_1]
        exact a1
      · by_cases e : j = p
        · rw [e, a4 p (by omega), gI_sI, if_pos ⟨rfl, rfl⟩, hx]
        · exact a3 j h1 (by omega)
      · rw [a4 j (by omega), gI_sI, if_neg (by omega)]
    show ∃ M', T_X4_findPaths_27 N (L_X4_findPaths_27 N n) _ _ = _ ∧ _
    unfold T_X4_findPaths_27
    rw [h9, if_neg (nI_ge (by omega) (by omega)), gd_t (inb_nI (by omega) (by omega)), nI_clamp (by omega), h55 p (by omega)]
    by_cases hl : dP F p < eaM m pa p
    · rw [if_neg (nI_nle (by omega) (by omega))]
      exact go 0 (by rw [if_pos (srcF_iff.mpr ⟨by omega, hl⟩)])
    · rw [if_pos (by rw [show eaM m pa p - dP F p = 0 by omega]; decide)]
      exact go FAR (by rw [if_neg (fun e => hl (srcF_iff.mp e).2)])
theorem c_findPaths {N : Nat} (hN : 17 < N) {m : Mem} {pa : Int32} {F : Nat → Nat → Bool} {h : Nat → Int} (hb : RelB m) (S : Srch m pa F h) {M : Mem} (hw : CW m pa M) (hu : CU m F M) (hr : CR m pa F M) :
    ∃ g f M', f_X4_findPaths N M = some M' ∧ FrP M M' ∧ CG m g f M' ∧ GIm m pa F h g f ∧ FX (arcA (Em m pa) F) (arcC (mat m)) g := by
  have hR12 := hb.R.2
  have hQ16 := hb.Q.2
  obtain ⟨M1, a1, a2, a3, a4, a5, a6⟩ := c_fill (N := N) (k := 56) (L := 12) (by decide) (by decide) (by omega) (by omega) (-1000000) M
  obtain ⟨M2, b1, b2, b3, b4, b5, b6⟩ := c_fill (N := N) (k := 57) (L := 12) (by decide) (by decide) (by omega) (by omega) (-1) M1
  obtain ⟨M3, c1, c2, c3, c4, c5, c6⟩ := c_fill (N := N) (k := 59) (L := 16) (by decide) (by decide) (by omega) (by omega) (-1) M2
  have u3 : FrP M M3 := ⟨fun k hk => by rw [c2 k (by omega), b2 k (by omega), a2 k (by omega)], fun k j => by rw [c4, b4, a4], fun k j => by rw [c5, b5, a5], fun k j => by rw [c6, b6, a6]⟩
  obtain ⟨M4, d1, d2, d3, d4⟩ := c_init (N := N) (F := F) hb hQ16 (nQ m) N 0 M3 (by omega) (by omega) (by rw [u3.1 51 (by omega)]; exact hw.2.1) (fun p hp => by rw [u3.1 55 (by omega)]; exact hr.2 p hp)
  have u4 := u3.trans (d2.p (by omega) (by omega))
  have ns : ∀ x, srcF (eaM m pa) F (16 + x) = false := fun x => by
    cases e : srcF (eaM m pa) F (16 + x)
    · rfl
    · have := (srcF_iff.mp e).1
      omega
  have hg : CG m (fun v => if srcF (eaM m pa) F v then 0 else FAR) (fun _ => none) M4 := by
    refine ⟨fun r hr' => ?_, fun p hp => d3 p hp (by omega), fun p hp => ?_⟩
    · rw [d2.1 56 (by omega) (by omega), d2.1 57 (by omega) (by omega), c2 56 (by omega), c2 57 (by omega), b2 56 (by omega), a3, b3, if_pos hr', if_pos hr']
      refine ⟨?_, rfl⟩
      show (-1000000 : Int32) = zI (if srcF (eaM m pa) F (16 + r) = true then 0 else FAR)
      rw [ns r]
      rfl
    · rw [d2.1 59 (by omega) (by omega), c3, if_pos hp]
      rfl
  have gfar : ∀ x, (fun v => if srcF (eaM m pa) F v then (0 : Int) else FAR) (16 + x) = FAR := fun x => by
    show (if srcF (eaM m pa) F (16 + x) = true then (0 : Int) else FAR) = FAR
    rw [ns x]
    rfl
  obtain ⟨g, f, M5, e1, e2, e3, e4, e5⟩ := c_rounds hN S hR12 hQ16 12 N 0 _ _ M4 (by omega) (by omega) (hw.keep (u4.1 51 (by omega)) (u4.1 52 (by omega))) (hu.keep (u4.1 53 (by omega))) hg (GI.init S.2) (fun x y hx hy hv => hv.2.1 (gfar x)) (fun y x hy hx hv => ⟨[], rfl, List.nodup_nil, fun z hz => by cases hz⟩)
  refine ⟨g, f, M5, ?_, u4.trans e2, e3, e4, e5⟩
  unfold f_X4_findPaths
  rw [b1_of a1, b1_of b1, b1_of c1, l1_of (show L_X4_findPaths_27 N N 0 M3 = _ from d1)]
  exact e1
theorem GI.none_iff {A : Nat → Nat → Bool} {c : Nat → Nat → Int} {src : Nat → Bool} {h g : Nat → Int} {f : Nat → Option Nat} (G : GI A c src h g f) {v : Nat} (hv : v < 28) (hs : src v = false) : f v = none ↔ g v = FAR := by
  constructor
  · exact G.2.1 v hv hs
  · intro e
    cases hf : f v with
    | none => rfl
    | some u => exact absurd e (G.2.2.1 v u hv hf).2.2.2.1
theorem GI.flt {A : Nat → Nat → Bool} {c : Nat → Nat → Int} {src : Nat → Bool} {h g : Nat → Int} {f : Nat → Option Nat} (G : GI A c src h g f) {v u : Nat} (hv : v < 28) (hf : f v = some u) : u < 28 := (G.2.2.1 v u hv hf).1
theorem c_bestEnd {N : Nat} {m : Mem} {pa : Int32} {F : Nat → Nat → Bool} {h g : Nat → Int} {f : Nat → Option Nat} (hb : RelB m) (S : Srch m pa F h) {M : Mem} (hw : CW m pa M) (hr : CR m pa F M) (hg : CG m g f M) (hG : GIm m pa F h g f) : ∀ d n r s, r + d = nR m → d < n → (∀ k, s = some k → k < r) →
    L_X4_bestEnd_4 N n (oI s) (nI r) M = some (oI (pick (fun r => decide (g (16 + r) ≠ FAR) && decide (dR F r < capM m r)) (fun r b => decide (g (16 + b) < g (16 + r))) d r s), M) := by
  have hR12 := hb.R.2
  intro d
  induction d with
  | zero =>
    intro n r s hd hn hs
    obtain ⟨n, rfl⟩ : ∃ k, n = k + 1 := ⟨n - 1, by omega⟩
    show T_X4_bestEnd_4 N (L_X4_bestEnd_4 N n) _ _ _ = _
    unfold T_X4_bestEnd_4
    rw [hw.1, if_pos (nI_le (by omega) (by omega))]
    rfl
  | succ d ih =>
    intro n r s hd hn hs
    obtain ⟨n, rfl⟩ : ∃ k, n = k + 1 := ⟨n - 1, by omega⟩
    have hrn : r < nR m := by omega
    have ihs := ih n (r + 1) s (by omega) (by omega) (fun k hk => by have := hs k hk; omega)
    have ihr := ih n (r + 1) (some r) (by omega) (by omega) (fun k hk => by cases hk; omega)
    have hcb := capM_le hb r
    have ns : srcF (eaM m pa) F (16 + r) = false := by
      cases e : srcF (eaM m pa) F (16 + r)
      · rfl
      · have := (srcF_iff.mp e).1
        omega
    have hni := hG.none_iff (show 16 + r < 28 by omega) ns
    have h57 : gI M 57 r = -1 ↔ g (16 + r) = FAR := by
      rw [(hg.1 r (by omega)).2, ← hni]
      refine oI_none (fun k hk => ?_)
      have := hG.flt (show 16 + r < 28 by omega) hk
      omega
    rw [pick_s]
    show T_X4_bestEnd_4 N (L_X4_bestEnd_4 N n) _ _ _ = _
    unfold T_X4_bestEnd_4 B_X4_bestEnd_51
    rw [hw.1, if_neg (nI_ge hrn (by omega)), gd_t (inb_nI (by omega) (by omega)), nI_clamp (by omega), hr.1 r hrn, nI_1]
    by_cases hl : dR F r < capM m r
    · rw [if_neg (nI_nle (by omega) (by omega)), decide_eq_true hl, Bool.and_true]
      by_cases hz : g (16 + r) = FAR
      · rw [if_pos (h57.mpr hz), if_neg (fun e => (of_decide_eq_true e) hz)]
        exact ihs
      · rw [if_neg (fun e => hz (h57.mp e)), if_pos (decide_eq_true hz)]
        cases s with
        | none =>
          rw [if_pos (show oI none = -1 from rfl)]
          exact ihr
        | some b =>
          have hbr := hs b rfl
          have rngb := hG.rng S.2 (show 16 + b < 28 by omega)
          have rngr := hG.rng S.2 (show 16 + r < 28 by omega)
          rw [if_neg (fun e => by cases (oI_none (s := some b) (fun k hk => by cases hk; omega)).mp e), show oI (some b) = nI b from rfl, gd_t (inb_nI (by omega) (by omega)), nI_clamp (by omega), (hg.1 r (by omega)).1, (hg.1 b (by omega)).1]
          have hle := zI_le (a := g (16 + r)) (b := g (16 + b)) (by unfold zB FAR at *; omega) (by unfold zB FAR at *; omega)
          by_cases hc : g (16 + b) < g (16 + r)
          · rw [if_neg (fun e => by have := hle.mp e; omega)]
            simp only [decide_eq_true hc, if_true]
            exact ihr
          · rw [if_pos (hle.mpr (by omega))]
            simp only [decide_eq_false hc]
            exact ihs
    · rw [if_pos (by rw [show capM m r - dR F r = 0 by omega]; decide), decide_eq_false hl, Bool.and_false, if_neg (by decide)]
      exact ihs
theorem pigeonO (a : Nat) : ∀ (m : Nat) (l : List Nat), l.Nodup → (∀ x, x ∈ l → a ≤ x ∧ x < a + m) → l.length ≤ m
  | 0, l, _, h => by
    cases l with
    | nil => exact Nat.le_refl _
    | cons x l => have := h x (List.mem_cons_self ..); omega
  | m + 1, l, hn, h => by
    by_cases hm : a + m ∈ l
    · have h1 := pigeonO a m (l.erase (a + m)) (hn.erase (a + m)) (fun x hx => by
        have := h x (List.mem_of_mem_erase hx)
        have hne : x ≠ a + m := fun e => by
          rw [e] at hx
          exact hn.not_mem_erase hx
        omega)
      rw [List.length_erase_of_mem hm] at h1
      omega
    · have := pigeonO a m l hn (fun x hx => by
        have := h x hx
        have hne : x ≠ a + m := fun e => hm (by rw [← e]; exact hx)
        omega)
      omega
theorem wy_rev {f : Nat → Option Nat} {F : Nat → Nat → Bool} : ∀ n v, St f F n v → ((wy f n v).filter (fun x => decide (16 ≤ x))).length = if 16 ≤ v then (n + 1) / 2 else n / 2 := by
  intro n
  induction n with
  | zero =>
    intro v hs
    have hv : v < 16 := hs
    unfold wy
    rw [if_neg (by omega), List.filter_cons_of_neg (by simp; omega)]
    rfl
  | succ n ih =>
    intro v hs
    obtain ⟨u, hu, h1, h2⟩ := hs
    have e := ih u h2
    have ewy : wy f (n + 1) v = v :: wy f n u := by
      show v :: (match f v with | none => [] | some u => wy f n u) = _
      rw [hu]
    rw [ewy]
    rcases h1 with ⟨a1, a2, a3, a4⟩ | ⟨a1, a2, a3, a4⟩
    · rw [List.filter_cons_of_pos (by simp; omega), List.length_cons, e, if_pos a1, if_neg (by omega)]
      omega
    · rw [List.filter_cons_of_neg (by simp; omega), e, if_pos a2, if_neg (by omega)]
theorem St.par {f : Nat → Option Nat} {F : Nat → Nat → Bool} : ∀ n v, St f F n v → (16 ≤ v → n % 2 = 1) ∧ (v < 16 → n % 2 = 0) := by
  intro n
  induction n with
  | zero =>
    intro v hs
    have hv : v < 16 := hs
    exact ⟨fun h => by omega, fun _ => rfl⟩
  | succ n ih =>
    intro v hs
    obtain ⟨u, hu, h1, h2⟩ := hs
    have := ih u h2
    rcases h1 with ⟨a1, a2, a3, a4⟩ | ⟨a1, a2, a3, a4⟩
    · exact ⟨fun _ => by have := this.2 a3; omega, fun h => by omega⟩
    · exact ⟨fun h => by omega, fun _ => by have := this.1 a2; omega⟩
theorem CU.set {m : Mem} {F : Nat → Nat → Bool} {M : Mem} (h : CU m F M) (hQ : nQ m ≤ 16) {r p : Nat} (hp : p < 16) (b : Bool) : CU m (setF F r p b) (sI M 53 (16 * r + p) (bI b)) := by
  intro x y hx hy
  rw [gI_sI]
  by_cases e : x = r ∧ y = p
  · rw [if_pos ⟨rfl, by rw [e.1, e.2]⟩, e.1, e.2, setF_same]
  · rw [if_neg (fun hh => e (by omega)), setF_ne _ _ e]
    exact h x y hx hy
theorem c_follow {N : Nat} {m : Mem} (hQ : nQ m ≤ 16) {f : Nat → Option Nat} : ∀ k t i r F M, k + 1 < t → i + (k + 1) ≤ 12 → r < 12 → chn f (2 * k + 1) (16 + r) → St f F (2 * k + 1) (16 + r) → CU m F M → (∀ x, x < 12 → gI M 57 x = oI (f (16 + x))) → (∀ y, y < 16 → gI M 59 y = oR (f y)) →
    ∃ M', (L_X4_follow_14 N t (nI r) (nI i) M).bind (fun x9 => match x9 with | .inl (m_16) => some (m_16) | .inr (m_16) => some (m_16)) = some M' ∧ FrX 53 55 M M' ∧ CU m (ag f (2 * k + 1) (16 + r) F) M' ∧ (∀ y, y < 16 → gI M' 55 y = if y = rot f (2 * k + 1) (16 + r) then gI M 55 y - 1 else gI M 55 y) := by
  intro k
  induction k with
  | zero =>
    intro t i r F M ht hi hr hc hs hu h57 h59
    obtain ⟨t, rfl⟩ : ∃ k, t = k + 1 := ⟨t - 1, by omega⟩
    obtain ⟨t, rfl⟩ : ∃ k, t = k + 1 := ⟨t - 1, by omega⟩
    obtain ⟨p, hp, hcp⟩ := hc
    obtain ⟨p', hp', h1, h2⟩ := hs
    rw [hp] at hp'
    cases hp'
    have hfp : f p = none := hcp
    have hp16 : p < 16 := by
      rcases h1 with ⟨a1, a2, a3, a4⟩ | ⟨a1, a2, a3, a4⟩
      · exact a3
      · omega
    have eag : ag f (2 * 0 + 1) (16 + r) F = setF F r p true := by
      show (match f (16 + r) with | none => F | some u => ag f 0 u (setE F u (16 + r))) = _
      rw [hp]
      show setE F p (16 + r) = _
      unfold setE
      rw [if_pos (by omega), show 16 + r - 16 = r by omega]
    have erot : rot f (2 * 0 + 1) (16 + r) = p := by
      show (match f (16 + r) with | none => 16 + r | some u => rot f 0 u) = _
      rw [hp]
      rfl
    have hcell : f_X9_cell N (nI r) (nI p) M = some (nI (16 * r + p), M) := by
      unfold f_X9_cell
      rw [cell_nI]
    rw [eag, erot]
    refine ⟨sI (sI M 53 (16 * r + p) (bI true)) 55 p (gI M 55 p - 1), ?_, FrX.two 53 55 M _ _ _ _, (hu.set hQ hp16 true).keep (sI_ne _ _ (by omega)), fun y hy => ?_⟩
    · show (T_X4_follow_14 N (L_X4_follow_14 N (t + 1)) _ _ _).bind _ = _
      unfold T_X4_follow_14
      rw [if_neg (show ¬ (12 : Int32) ≤ nI i from nI_ge (b := 12) (by omega) (by omega)), if_neg (fun e => nI_pos (n := r) (by omega) (by rw [e]; decide)), gd_t (inb_nI (by omega) (by omega)), nI_clamp (by omega), h57 r hr, hp, show oI (some p) = nI p from rfl, if_neg (fun e => nI_pos (n := p) (by omega) (by rw [e]; decide)), b2_of hcell, gd_t (inb_nI (by omega) (by omega)), nI_clamp (show 16 * r + p < 2 ^ 31 by omega), wr_eq, gd_t (inb_nI hp16 (by omega)), nI_clamp (show p < 2 ^ 31 by omega), show vp_nar .boolean (1 : Int32) = bI true from rfl, sI_ne _ _ (show (59 : Nat) ≠ 53 by omega), h59 p hp16, hfp, if_pos (show oR none = -1 from rfl), wr_eq, sI_ne _ _ (show (55 : Nat) ≠ 53 by omega), nI_1]
      show (T_X4_follow_14 N (L_X4_follow_14 N t) _ _ _).bind _ = _
      unfold T_X4_follow_14
      by_cases h12 : 12 ≤ i + 1
      · rw [if_pos (show (12 : Int32) ≤ nI (i + 1) from nI_le (a := 12) h12 (by omega))]
        rfl
      · rw [if_neg (show ¬ (12 : Int32) ≤ nI (i + 1) from nI_ge (b := 12) (by omega) (by omega)), if_pos (show oR none = -1 from rfl)]
        rfl
    · rw [gI_sI]
      by_cases e : y = p
      · rw [if_pos ⟨rfl, e⟩, if_pos e, e]
      · rw [if_neg (by omega), if_neg e, sI_ne _ _ (by omega)]
  | succ k ih =>
    intro t i r F M ht hi hr hc hs hu h57 h59
    obtain ⟨t, rfl⟩ : ∃ k, t = k + 1 := ⟨t - 1, by omega⟩
    have hc0 := hc
    rw [show 2 * (k + 1) + 1 = (2 * k + 2) + 1 by omega] at hc hs hc0
    obtain ⟨p, hp, hcp⟩ := hc
    obtain ⟨p', hp', h1, h2⟩ := hs
    rw [hp] at hp'
    cases hp'
    have hcp0 := hcp
    rw [show 2 * k + 2 = (2 * k + 1) + 1 by omega] at hcp h2
    obtain ⟨u, hu', hcu⟩ := hcp
    obtain ⟨u', hu'', h3, h4⟩ := h2
    rw [hu'] at hu''
    cases hu''
    obtain ⟨a1, a2, a3, a4⟩ := h1.resolve_right (fun hh => by omega)
    obtain ⟨b1, b2, b3, b4⟩ := h3.resolve_left (fun hh => by omega)
    obtain ⟨r', rfl⟩ : ∃ r', u = 16 + r' := ⟨u - 16, by omega⟩
    rw [show 16 + r - 16 = r by omega] at a4
    rw [show 16 + r' - 16 = r' by omega] at b4
    have n1 : (16 + r) ∉ wy f (2 * k + 1) (16 + r') := fun hm => by
      obtain ⟨x, x1, x2⟩ := wy_chn _ _ _ hcu hm
      have := chn_uniq _ _ _ hc0 x2
      omega
    have n2 : p ∉ wy f (2 * k + 1) (16 + r') := fun hm => by
      obtain ⟨x, x1, x2⟩ := wy_chn _ _ _ hcu hm
      have := chn_uniq _ _ _ hcp0 x2
      omega
    have hst1 := St.keep (F := F) (u := p) (v := 16 + r) (Or.inl ⟨by omega, a3⟩) _ _ n1 h4
    have hst2 := St.keep (F := setE F p (16 + r)) (u := 16 + r') (v := p) (Or.inr ⟨a3, by omega⟩) _ _ n2 hst1
    have e1 : setE F p (16 + r) = setF F r p true := by
      unfold setE
      rw [if_pos (by omega), show 16 + r - 16 = r by omega]
    have e2 : setE (setE F p (16 + r)) (16 + r') p = setF (setF F r p true) r' p false := by
      rw [e1]
      unfold setE
      rw [if_neg (by omega), show 16 + r' - 16 = r' by omega]
    have eag : ag f (2 * (k + 1) + 1) (16 + r) F = ag f (2 * k + 1) (16 + r') (setE (setE F p (16 + r)) (16 + r') p) := by
      rw [show 2 * (k + 1) + 1 = ((2 * k + 1) + 1) + 1 by omega]
      show (match f (16 + r) with | none => F | some u => ag f ((2 * k + 1) + 1) u (setE F u (16 + r))) = _
      rw [hp]
      show (match f p with | none => setE F p (16 + r) | some u => ag f (2 * k + 1) u (setE (setE F p (16 + r)) u p)) = _
      rw [hu']
    have erot : rot f (2 * (k + 1) + 1) (16 + r) = rot f (2 * k + 1) (16 + r') := by
      rw [show 2 * (k + 1) + 1 = ((2 * k + 1) + 1) + 1 by omega]
      show (match f (16 + r) with | none => 16 + r | some u => rot f ((2 * k + 1) + 1) u) = _
      rw [hp]
      show (match f p with | none => p | some u => rot f (2 * k + 1) u) = _
      rw [hu']
    rw [eag, erot]
    rw [e2] at hst2 ⊢
    have hcell : f_X9_cell N (nI r) (nI p) M = some (nI (16 * r + p), M) := by
      unfold f_X9_cell
      rw [cell_nI]
    have hcell2 : ∀ X, f_X9_cell N (nI r') (nI p) X = some (nI (16 * r' + p), X) := fun X => by
      unfold f_X9_cell
      rw [cell_nI]
    have hu2 := (hu.set hQ (r := r) a3 true).set hQ (r := r') a3 false
    obtain ⟨M', c1, c2, c3, c4⟩ := ih t (i + 1) r' (setF (setF F r p true) r' p false) (sI (sI M 53 (16 * r + p) (bI true)) 53 (16 * r' + p) (bI false)) (by omega) (by omega) (by omega) hcu hst2 hu2 (fun x hx => by rw [sI_ne _ _ (by omega), sI_ne _ _ (by omega)]; exact h57 x hx) (fun y hy => by rw [sI_ne _ _ (by omega), sI_ne _ _ (by omega)]; exact h59 y hy)
    have u1 : FrX 53 55 M (sI (sI M 53 (16 * r + p) (bI true)) 53 (16 * r' + p) (bI false)) := ⟨fun k k1 _ => by rw [sI_ne _ _ k1, sI_ne _ _ k1], fun _ _ => rfl, fun _ _ => rfl, fun _ _ => rfl⟩
    refine ⟨M', ?_, u1.trans c2, c3, fun y hy => by rw [c4 y hy, sI_ne _ _ (by omega), sI_ne _ _ (by omega)]⟩
    show (T_X4_follow_14 N (L_X4_follow_14 N t) _ _ _).bind _ = _
    unfold T_X4_follow_14
    rw [if_neg (show ¬ (12 : Int32) ≤ nI i from nI_ge (b := 12) (by omega) (by omega)), if_neg (fun e => nI_pos (n := r) (by omega) (by rw [e]; decide)), gd_t (inb_nI (by omega) (by omega)), nI_clamp (by omega), h57 r hr, hp, show oI (some p) = nI p from rfl, if_neg (fun e => nI_pos (n := p) (by omega) (by rw [e]; decide)), b2_of hcell, gd_t (inb_nI (by omega) (by omega)), nI_clamp (show 16 * r + p < 2 ^ 31 by omega), wr_eq, gd_t (inb_nI a3 (by omega)), nI_clamp (show p < 2 ^ 31 by omega), show vp_nar .boolean (1 : Int32) = bI true from rfl, sI_ne _ _ (show (59 : Nat) ≠ 53 by omega), h59 p a3, hu', show oR (some (16 + r')) = nI r' by show nI (16 + r' - 16) = _; rw [show 16 + r' - 16 = r' by omega], if_neg (fun e => nI_pos (n := r') (by omega) (by rw [e]; decide)), b2_of (hcell2 _), gd_t (inb_nI (by omega) (by omega)), nI_clamp (show 16 * r' + p < 2 ^ 31 by omega), wr_eq, show vp_nar .boolean (0 : Int32) = bI false from rfl, nI_1]
    exact c1
