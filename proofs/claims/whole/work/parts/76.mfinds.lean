/-! THE MODEL'S MATCHING: exchanges, the whole -/
def FE (a b : Mem) : Prop := (∀ k, ¬ (k = 95 ∨ (101 ≤ k ∧ k ≤ 103)) → gI b k = gI a k) ∧ (∀ j, j ≠ 15 → j ≠ 16 → gI b 95 j = gI a 95 j) ∧ (∀ k j, gR b k j = gR a k j) ∧ (∀ k j, gJ b k j = gJ a k j) ∧ (∀ k j, gD b k j = gD a k j)
theorem FE.refl (m : Mem) : FE m m := ⟨fun _ _ => rfl, fun _ _ _ => rfl, fun _ _ => rfl, fun _ _ => rfl, fun _ _ => rfl⟩
theorem FE.trans {a b c : Mem} (h : FE a b) (h' : FE b c) : FE a c := ⟨fun k hk => (h'.1 k hk).trans (h.1 k hk), fun j h1 h2 => (h'.2.1 j h1 h2).trans (h.2.1 j h1 h2), fun k j => (h'.2.2.1 k j).trans (h.2.2.1 k j), fun k j => (h'.2.2.2.1 k j).trans (h.2.2.2.1 k j), fun k j => (h'.2.2.2.2 k j).trans (h.2.2.2.2 k j)⟩
theorem FE.s95 (m : Mem) {j : Nat} {v : Int32} (hj : j = 15 ∨ j = 16) : FE m (sI m 95 j v) := ⟨fun k' hk' => sI_ne _ _ (by omega), fun j' h1 h2 => by rw [gI_sI, if_neg (by omega)], fun _ _ => rfl, fun _ _ => rfl, fun _ _ => rfl⟩
theorem ME.fe {m M : Mem} (h : ME m M) : FE m M := ⟨fun k hk => h.1 k (by omega), fun j _ _ => by rw [h.1 95 (by omega)], h.2.1, h.2.2.1, h.2.2.2⟩
theorem FE.core {m M : Mem} (h : FE m M) : Core m M := by
  refine ⟨fun k hk => h.1 k (by omega), fun j _ => by rw [h.1 1 (by omega)], fun j hj => h.2.1 j (by omega) (by omega), h.2.2.1 0 7, h.2.2.1 0 8, fun hc => ?_⟩
  unfold ChOK ChAt at *
  simp only [h.2.2.1]
  exact hc
theorem FE.v {m M : Mem} (h : FE m M) : SV m M := ⟨h.1 96 (by omega), h.1 98 (by omega)⟩
theorem xor_bit {k j : Nat} (hj : j < 31) : nI k ^^^ ((1 : Int32) <<< (nI j &&& 31)) = nI (k ^^^ 2 ^ j) := by rw [shl1 j hj, nx_xor]
theorem TkS.tog {Y : Mem} {F : Nat → Nat → Bool} (h : TkS Y F) {r p k : Nat} (hr : r < 12) (hp : p < 16) (hk : k < 65536) (hb : ∀ q, q < 16 → k.testBit q = F r q) {b : Bool} (hF : F r p = !b) : TkS (sI Y 101 r (nI (k ^^^ 2 ^ p))) (setF F r p b) := by
  intro x hx
  by_cases e : x = r
  · refine ⟨k ^^^ 2 ^ p, Nat.xor_lt_two_pow (n := 16) hk (Nat.pow_lt_pow_right (by omega) hp), by rw [gI_sI, if_pos ⟨rfl, e⟩], fun q hq => ?_⟩
    rw [Nat.testBit_xor, Nat.testBit_two_pow, hb q hq, e]
    by_cases e' : q = p
    · rw [e', setF_same, hF]
      cases b <;> simp
    · rw [setF_ne _ _ (fun hh => e' hh.2), decide_eq_false (fun hh => e' hh.symm)]
      simp
  · obtain ⟨k', a1, a2, a3⟩ := h x hx
    refine ⟨k', a1, by rw [gI_sI, if_neg (by omega)]; exact a2, fun q hq => ?_⟩
    rw [setF_ne _ _ (fun hh => e hh.1)]
    exact a3 q hq
theorem m_toggle {N : Nat} (pa : Int32) {f : Nat → Option Nat} : ∀ n t v F Y, n < t → v < 28 → chn f n v → St f F n v → TkS Y F → (∀ x, x < 28 → gI Y 103 x = oI (f x)) →
    ∃ Y', L_X10_finds_75 N t pa (nI v) Y = some (pa, Y') ∧ ME Y Y' ∧ TkS Y' (ag f n v F) ∧ gI Y' 95 = gI Y 95 := by
  intro n
  induction n with
  | zero =>
    intro t v F Y ht hv hc hs hk hf
    obtain ⟨t, rfl⟩ : ∃ k, t = k + 1 := ⟨t - 1, by omega⟩
    refine ⟨Y, ?_, ME.refl Y, hk, rfl⟩
    show T_X10_finds_75 N (L_X10_finds_75 N t) _ _ _ = _
    unfold T_X10_finds_75
    rw [gd_t (inb_nI hv (by omega)), nI_clamp (by omega), hf v hv, show f v = none from hc, if_pos (show oI none = -1 from rfl)]
  | succ n ih =>
    intro t v F Y ht hv hc hs hk hf
    obtain ⟨t, rfl⟩ : ∃ k, t = k + 1 := ⟨t - 1, by omega⟩
    have hc' := hc
    obtain ⟨u, hu, hcu⟩ := hc
    obtain ⟨u', hu', h1, h2⟩ := hs
    rw [hu] at hu'
    cases hu'
    have hu28 : u < 28 := by
      rcases h1 with ⟨a1, a2, a3, a4⟩ | ⟨a1, a2, a3, a4⟩ <;> omega
    have hnm : v ∉ wy f n u := fun hm => by
      obtain ⟨m, m1, m2⟩ := wy_chn n u v hcu hm
      have := chn_uniq _ _ _ hc' m2
      omega
    have hst := St.keep (F := F) (u := u) (v := v) (h1.elim (fun a => Or.inl ⟨a.1, a.2.2.1⟩) (fun a => Or.inr ⟨a.1, a.2.1⟩)) n u hnm h2
    have eag : ag f (n + 1) v F = ag f n u (setE F u v) := by
      show (match f v with | none => F | some u => ag f n u (setE F u v)) = _
      rw [hu]
    rw [eag]
    show ∃ Y', T_X10_finds_75 N (L_X10_finds_75 N t) _ _ _ = _ ∧ _
    unfold T_X10_finds_75 B_X10_finds_109 B_X10_finds_127
    rw [gd_t (inb_nI hv (by omega)), nI_clamp (by omega), hf v hv, hu, if_neg (fun e => by cases (oI_none (s := some u) (fun k hk => by cases hk; omega)).mp e), show oI (some u) = nI u from rfl]
    rcases h1 with ⟨a1, a2, a3, a4⟩ | ⟨a1, a2, a3, a4⟩
    · obtain ⟨k, k1, k2, k3⟩ := hk (v - 16) (by omega)
      have es : setE F u v = setF F (v - 16) u true := if_pos a1
      have sub : nI v - (16 : Int32) = nI (v - 16) := by
        rw [show (16 : Int32) = nI 16 from rfl, nI_sub (by omega)]
      have u1 : ME Y (sI Y 101 (v - 16) (nI (k ^^^ 2 ^ u))) := ME.s _ (by omega)
      have hk1 := hk.tog (r := v - 16) (p := u) (b := true) (by omega) a3 k1 k3 a4
      rw [← es] at hk1
      obtain ⟨Y', b1, b2, b3, b4⟩ := ih t u (setE F u v) (sI Y 101 (v - 16) (nI (k ^^^ 2 ^ u))) (by omega) hu28 hcu hst hk1 (fun x hx => by rw [sI_ne _ _ (by omega)]; exact hf x hx)
      refine ⟨Y', ?_, u1.trans b2, b3, by rw [b4, sI_ne _ _ (by omega)]⟩
      rw [if_pos (show (16 : Int32) ≤ nI v from nI_le (a := 16) a1 (by omega)), sub, gd_t (inb_nI (by omega) (by omega)), if_pos (show (16 : Int32) ≤ nI v from nI_le (a := 16) a1 (by omega)), gd_t (inb_nI (by omega) (by omega)), nI_clamp (by omega), k2, xor_bit (by omega), wr_eq]
      exact b1
    · obtain ⟨k, k1, k2, k3⟩ := hk (u - 16) (by omega)
      have es : setE F u v = setF F (u - 16) v false := if_neg (by omega)
      have sub : nI u - (16 : Int32) = nI (u - 16) := by
        rw [show (16 : Int32) = nI 16 from rfl, nI_sub (by omega)]
      have u1 : ME Y (sI Y 101 (u - 16) (nI (k ^^^ 2 ^ v))) := ME.s _ (by omega)
      have hk1 := hk.tog (r := u - 16) (p := v) (b := false) (by omega) a1 k1 k3 a4
      rw [← es] at hk1
      obtain ⟨Y', b1, b2, b3, b4⟩ := ih t u (setE F u v) (sI Y 101 (u - 16) (nI (k ^^^ 2 ^ v))) (by omega) hu28 hcu hst hk1 (fun x hx => by rw [sI_ne _ _ (by omega)]; exact hf x hx)
      refine ⟨Y', ?_, u1.trans b2, b3, by rw [b4, sI_ne _ _ (by omega)]⟩
      rw [if_neg (show ¬ (16 : Int32) ≤ nI v from nI_ge (b := 16) (by omega) (by omega)), sub, gd_t (inb_nI (by omega) (by omega)), if_neg (show ¬ (16 : Int32) ≤ nI v from nI_ge (b := 16) (by omega) (by omega)), gd_t (inb_nI (by omega) (by omega)), nI_clamp (by omega), k2, xor_bit (by omega), wr_eq]
      exact b1
theorem szF_le (F : Nat → Nat → Bool) : szF F ≤ 192 := by
  have : szF F ≤ 16 * 12 := sm_le 12 (fun r _ => cnt_le _ 16)
  omega
theorem wtF_le {w : Nat → Nat → Nat} (hw : ∀ r p, w r p ≤ 2) (F : Nat → Nat → Bool) : wtF w F ≤ 384 := by
  have : wtF w F ≤ 32 * 12 := sm_le 12 (fun r _ => by
    have : sm (fun p => if F r p then w r p else 0) 16 ≤ 2 * 16 := sm_le 16 (fun p _ => by
      have := hw r p
      split <;> omega)
    omega)
  omega
theorem Cert.srch {m : Mem} {pa : Int32} {F : Nat → Nat → Bool} {h : Nat → Int} {hT : Int} (hF : Feas (Em m pa) (capM m) (eaM m pa) F) (C : Cert (Em m pa) (capM m) (eaM m pa) (mat m) F h hT) : Srch m pa F h := ⟨hF, C.po (mat_le m)⟩
/-- the best there is -/
def Best (m : Mem) (pa : Int32) (F : Nat → Nat → Bool) : Prop := Feas (Em m pa) (capM m) (eaM m pa) F ∧ (∃ h hT, Cert (Em m pa) (capM m) (eaM m pa) (mat m) F h hT) ∧ (∀ G, Feas (Em m pa) (capM m) (eaM m pa) G → szF G ≤ szF F)
theorem m_loop {N : Nat} (hN : 4000 < N) {m : Mem} {pa : Int32} : ∀ n F h hT Y s g f, 193 - szF F < n → Rel Y → SV m Y → Feas (Em m pa) (capM m) (eaM m pa) F → Cert (Em m pa) (capM m) (eaM m pa) (mat m) F h hT → TkS Y F → GnS Y g f → GIm m pa F h g f → FX (arcA (Em m pa) F) (arcC (mat m)) g →
    (s = none → ∀ r, r < 12 → dR F r < capM m r → g (16 + r) = FAR) → (∀ b, s = some b → b < 12 ∧ dR F b < capM m b ∧ g (16 + b) ≠ FAR ∧ ∀ r, r < 12 → dR F r < capM m r → g (16 + r) ≠ FAR → g (16 + r) ≤ g (16 + b)) → gI Y 95 15 = nI (szF F) → gI Y 95 16 = nI (wtF (mat m) F) →
    ∃ Y' F', L_X10_finds_37 N n pa (oI s) Y = some Y' ∧ FE Y Y' ∧ Best m pa F' ∧ gI Y' 95 15 = nI (szF F') ∧ gI Y' 95 16 = nI (wtF (mat m) F') := by
  intro n
  induction n with
  | zero => intro F h hT Y s g f hn; omega
  | succ n ih =>
    intro F h hT Y s g f hn hR hv hF C hk hg hG X h1 h2 e15 e16
    have hszb := szF_le F
    show ∃ Y' F', T_X10_finds_37 N (L_X10_finds_37 N n) _ _ _ = _ ∧ _
    unfold T_X10_finds_37
    cases s with
    | none =>
      rw [if_pos (show oI none = -1 from rfl)]
      exact ⟨Y, F, rfl, FE.refl Y, ⟨hF, ⟨h, hT, C⟩, fun G hGf => no_more (mat_le m) hF hGf hG X (h1 rfl)⟩, e15, e16⟩
    | some b =>
      obtain ⟨b1, b2, b3, b4⟩ := h2 b rfl
      obtain ⟨k, hck⟩ := hG.2.2.2.2.1 (16 + b) (by omega) b3
      have P := C.po (mat_le m)
      have hkl := (chn_gain hG P k (16 + b) (by omega) b3 hck).2
      obtain ⟨o1, ⟨h', hT', o2⟩, o3, o4, o5, o6, o7, o8⟩ := one_more (mat_le m) hF C hG X b1 b2 b3 b4 hck
      have hgb := (hG.rng P (show 16 + b < 28 by omega)).resolve_left b3
      have hwb := wtF_le (mat_le m) F
      rw [if_neg (fun e => by cases (oI_none (s := some b) (fun k hk => by cases hk; omega)).mp e), show oI (some b) = nI b from rfl, wr_eq, show (16 : Int32) + nI b = nI (16 + b) from nI_add 16 b, gd_t (inb_nI (by omega) (by omega)), nI_clamp (by omega), wr_eq]
      have u1 : FE Y (sI (sI Y 95 15 (gI Y 95 15 + 1)) 95 16 (gI (sI Y 95 15 (gI Y 95 15 + 1)) 95 16 + gI (sI Y 95 15 (gI Y 95 15 + 1)) 102 (16 + b))) := (FE.s95 _ (by omega)).trans (FE.s95 _ (by omega))
      have x15 : gI (sI (sI Y 95 15 (gI Y 95 15 + 1)) 95 16 (gI (sI Y 95 15 (gI Y 95 15 + 1)) 95 16 + gI (sI Y 95 15 (gI Y 95 15 + 1)) 102 (16 + b))) 95 15 = nI (szF (ag f k (16 + b) F)) := by
        rw [gI_sI, if_neg (by omega), gI_sI, if_pos ⟨rfl, rfl⟩, e15, nI_1, o3]
      have x16 : gI (sI (sI Y 95 15 (gI Y 95 15 + 1)) 95 16 (gI (sI Y 95 15 (gI Y 95 15 + 1)) 95 16 + gI (sI Y 95 15 (gI Y 95 15 + 1)) 102 (16 + b))) 95 16 = nI (wtF (mat m) (ag f k (16 + b) F)) := by
        rw [gI_sI, if_pos ⟨rfl, rfl⟩, gI_sI, if_neg (by omega), e16, sI_ne _ _ (by omega), hg.1 _ (by omega), ← zI_nI, zI_add, ← o4, zI_nI]
      have x101 : gI (sI (sI Y 95 15 (gI Y 95 15 + 1)) 95 16 (gI (sI Y 95 15 (gI Y 95 15 + 1)) 95 16 + gI (sI Y 95 15 (gI Y 95 15 + 1)) 102 (16 + b))) 101 = gI Y 101 := by rw [sI_ne _ _ (by omega), sI_ne _ _ (by omega)]
      have x103 : gI (sI (sI Y 95 15 (gI Y 95 15 + 1)) 95 16 (gI (sI Y 95 15 (gI Y 95 15 + 1)) 95 16 + gI (sI Y 95 15 (gI Y 95 15 + 1)) 102 (16 + b))) 103 = gI Y 103 := by rw [sI_ne _ _ (by omega), sI_ne _ _ (by omega)]
      generalize sI (sI Y 95 15 (gI Y 95 15 + 1)) 95 16 (gI (sI Y 95 15 (gI Y 95 15 + 1)) 95 16 + gI (sI Y 95 15 (gI Y 95 15 + 1)) 102 (16 + b)) = Y1 at u1 x15 x16 x101 x103
      obtain ⟨Y2, t1, t2, t3, t4⟩ := m_toggle (N := N) pa k N (16 + b) F Y1 (by omega) (by omega) hck o5 (by unfold TkS; rw [x101]; exact hk) (fun x hx => by rw [x103]; exact hg.2 x hx)
      rw [l2_of t1]
      have u2 := u1.trans t2.fe
      have hR2 := hR.core u2.core
      have hv2 : SV m Y2 := ⟨u2.v.1.trans hv.1, u2.v.2.trans hv.2⟩
      obtain ⟨g', f', Y3, s', c1, c2, c3, c4, c5, c6, c7, c8⟩ := m_goesOn hN (o2.srch o1) hR2 hv2 t3
      rw [b2_of c1]
      have u3 := u2.trans c2.fe
      have hk3 : TkS Y3 (ag f k (16 + b) F) := by unfold TkS; rw [c3]; exact t3
      have z15 : gI Y3 95 15 = nI (szF (ag f k (16 + b) F)) ∧ gI Y3 95 16 = nI (wtF (mat m) (ag f k (16 + b) F)) := by
        rw [c2.1 95 (by omega), t4]
        exact ⟨x15, x16⟩
      obtain ⟨Y4, F4, d1, d2, d3, d4, d5⟩ := ih (ag f k (16 + b) F) h' hT' Y3 s' g' f' (by omega) (hR.core u3.core) ⟨u3.v.1.trans hv.1, u3.v.2.trans hv.2⟩ o1 o2 hk3 c4 c5 c6 c7 c8 z15.1 z15.2
      exact ⟨Y4, F4, d1, u3.trans d2, d3, d4, d5⟩
theorem m_zero {N : Nat} (pa : Int32) : ∀ d n i Y, i + d = 12 → d < n → ∃ Y', L_X10_finds_2 N n pa (nI i) Y = some (pa, Y') ∧ ME Y Y' ∧ (∀ j, j < 12 → i ≤ j → gI Y' 101 j = 0) ∧ (∀ j, j < i → gI Y' 101 j = gI Y 101 j) := by
  intro d
  induction d with
  | zero =>
    intro n i Y hi hn
    obtain ⟨n, rfl⟩ : ∃ k, n = k + 1 := ⟨n - 1, by omega⟩
    obtain rfl : i = 12 := by omega
    refine ⟨Y, ?_, ME.refl Y, fun j h1 h2 => by omega, fun j _ => rfl⟩
    show T_X10_finds_2 N (L_X10_finds_2 N n) _ _ _ = _
    unfold T_X10_finds_2
    rw [if_pos (by decide)]
  | succ d ih =>
    intro n i Y hi hn
    obtain ⟨n, rfl⟩ : ∃ k, n = k + 1 := ⟨n - 1, by omega⟩
    obtain ⟨Y', a1, a2, a3, a4⟩ := ih n (i + 1) (sI Y 101 i 0) (by omega) (by omega)
    refine ⟨Y', ?_, (ME.s _ (by omega)).trans a2, fun j h1 h2 => ?_, fun j h1 => ?_⟩
    · show T_X10_finds_2 N (L_X10_finds_2 N n) _ _ _ = _
      unfold T_X10_finds_2
      rw [if_neg (show ¬ (12 : Int32) ≤ nI i from nI_ge (b := 12) (by omega) (by omega)), gd_t (inb_nI (by omega) (by omega)), nI_clamp (by omega), wr_eq, nI_1]
      exact a1
    · by_cases e : j = i
      · rw [e, a4 i (by omega), gI_sI, if_pos ⟨rfl, rfl⟩]
      · exact a3 j h1 (by omega)
    · rw [a4 j (by omega), gI_sI, if_neg (by omega)]
theorem m_finds {N : Nat} (hN : 4000 < N) {m : Mem} (pa : Int32) {Y : Mem} (hR : Rel Y) (hv : SV m Y) : ∃ Y' F, f_X10_finds N pa Y = some Y' ∧ FE Y Y' ∧ Best m pa F ∧ gI Y' 95 15 = nI (szF F) ∧ gI Y' 95 16 = nI (wtF (mat m) F) := by
  obtain ⟨Y1, a1, a2, a3, a4⟩ := m_zero (N := N) pa 12 N 0 Y (by omega) (by omega)
  obtain ⟨i1, i2, i3, i4⟩ := Cert.none (Em m pa) (capM m) (eaM m pa) (mat_le m)
  have u1 : FE Y (sI (sI Y1 95 15 0) 95 16 0) := a2.fe.trans ((FE.s95 _ (by omega)).trans (FE.s95 _ (by omega)))
  have hk1 : TkS (sI (sI Y1 95 15 0) 95 16 0) (fun _ _ => false) := fun r hr => ⟨0, by omega, by rw [sI_ne _ _ (by omega), sI_ne _ _ (by omega), a3 r hr (by omega)]; rfl, fun p _ => Nat.zero_testBit p⟩
  have hv1 : SV m (sI (sI Y1 95 15 0) 95 16 0) := ⟨u1.v.1.trans hv.1, u1.v.2.trans hv.2⟩
  have e15 : gI (sI (sI Y1 95 15 0) 95 16 0) 95 15 = nI 0 := by
    rw [gI_sI, if_neg (by omega), gI_sI, if_pos ⟨rfl, rfl⟩]
    rfl
  have e16 : gI (sI (sI Y1 95 15 0) 95 16 0) 95 16 = nI 0 := by
    rw [gI_sI, if_pos ⟨rfl, rfl⟩]
    rfl
  have hR1 := hR.core u1.core
  obtain ⟨g, f, Y2, s, c1, c2, c3, c4, c5, c6, c7, c8⟩ := m_goesOn hN (i2.srch i1) hR1 hv1 hk1
  have u2 := u1.trans c2.fe
  obtain ⟨Y3, F, d1, d2, d3, d4, d5⟩ := m_loop hN N (fun _ _ => false) _ _ Y2 s g f (by omega) (hR.core u2.core) ⟨u2.v.1.trans hv.1, u2.v.2.trans hv.2⟩ i1 i2 (by unfold TkS; rw [c3]; exact hk1) c4 c5 c6 c7 c8 (by rw [c2.1 95 (by omega), e15, i3]) (by rw [c2.1 95 (by omega), e16, i4])
  refine ⟨Y3, F, ?_, u2.trans d2, d3, d4, d5⟩
  unfold f_X10_finds
  rw [l2_of (show L_X10_finds_2 N N pa 0 Y = _ from a1), wr_eq, wr_eq, b2_of c1, l1_of d1]
