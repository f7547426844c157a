/-! THE MODEL'S ORDER AND FUNDING -/
def YE (a b : Mem) : Prop := (∀ k, ¬ (k = 95 ∨ (104 ≤ k ∧ k ≤ 107)) → gI b k = gI a k) ∧ (∀ j, j ≠ 19 → j ≠ 22 → gI b 95 j = gI a 95 j) ∧ (∀ k j, gR b k j = gR a k j) ∧ (∀ k j, gJ b k j = gJ a k j) ∧ (∀ k j, gD b k j = gD a k j)
theorem YE.refl (m : Mem) : YE m m := ⟨fun _ _ => rfl, fun _ _ _ => rfl, fun _ _ => rfl, fun _ _ => rfl, fun _ _ => rfl⟩
theorem YE.trans {a b c : Mem} (h : YE a b) (h' : YE b c) : YE a c := ⟨fun k hk => (h'.1 k hk).trans (h.1 k hk), fun j h1 h2 => (h'.2.1 j h1 h2).trans (h.2.1 j h1 h2), fun k j => (h'.2.2.1 k j).trans (h.2.2.1 k j), fun k j => (h'.2.2.2.1 k j).trans (h.2.2.2.1 k j), fun k j => (h'.2.2.2.2 k j).trans (h.2.2.2.2 k j)⟩
theorem YE.s (m : Mem) {k j : Nat} {v : Int32} (hk : 104 ≤ k ∧ k ≤ 107) : YE m (sI m k j v) := ⟨fun k' hk' => sI_ne _ _ (by omega), fun j _ _ => by rw [sI_ne _ _ (by omega)], fun _ _ => rfl, fun _ _ => rfl, fun _ _ => rfl⟩
theorem YE.s95 (m : Mem) {j : Nat} {v : Int32} (hj : j = 19 ∨ j = 22) : YE m (sI m 95 j v) := ⟨fun k' hk' => sI_ne _ _ (by omega), fun j' h1 h2 => by rw [gI_sI, if_neg (by omega)], fun _ _ => rfl, fun _ _ => rfl, fun _ _ => rfl⟩
theorem YE.core {m M : Mem} (h : YE m M) : Core m M := by
  refine ⟨fun k hk => h.1 k (by omega), fun j _ => by rw [h.1 1 (by omega)], fun j hj => h.2.1 j (by omega) (by omega), h.2.2.1 0 7, h.2.2.1 0 8, fun hc => ?_⟩
  unfold ChOK ChAt at *
  simp only [h.2.2.1]
  exact hc
theorem YE.v {m M : Mem} (h : YE m M) : SV m M := ⟨h.1 96 (by omega), h.1 98 (by omega)⟩
theorem m_lay1 {N : Nat} (hN : 17 < N) : ∀ d n i m, Rel m → i + d = nQ m → d < n → gI m 95 19 = nI (cnt (rn m) i) → (∀ p, p < i → gI m 105 p = zI (nm (sv m) p)) →
    ∃ M, L_X10_laysOrder_7 N n (nI i) m = some M ∧ YE m M ∧ gI M 95 19 = nI (cnt (rn m) (nQ m)) ∧ (∀ p, p < nQ m → gI M 105 p = zI (nm (sv m) p)) := by
  intro d
  induction d with
  | zero =>
    intro n i m h hi hn h1 h2
    have hQ := h.b.Q.2
    obtain ⟨n, rfl⟩ : ∃ k, n = k + 1 := ⟨n - 1, by omega⟩
    obtain rfl : i = nQ m := by omega
    refine ⟨m, ?_, YE.refl m, h1, h2⟩
    show T_X10_laysOrder_7 N (L_X10_laysOrder_7 N n) _ _ = _
    unfold T_X10_laysOrder_7
    rw [h.b.Q.1, if_pos (nI_le (by omega) (by omega))]
  | succ d ih =>
    intro n i m h hi hn h1 h2
    have hQ := h.b.Q.2
    obtain ⟨n, rfl⟩ : ∃ k, n = k + 1 := ⟨n - 1, by omega⟩
    have u1 : YE m (sI m 105 i (zI (nm (sv m) i))) := YE.s _ (by omega)
    have hX1 := h.core u1.core
    have u2 : YE (sI m 105 i (zI (nm (sv m) i))) (sI (sI m 105 i (zI (nm (sv m) i))) 95 19 (nI (cnt (rn m) (i + 1)))) := YE.s95 _ (by omega)
    have u := u1.trans u2
    have hX := h.core u.core
    obtain ⟨M, a1, a2, a3, a4⟩ := ih n (i + 1) _ hX (by rw [u.v.q]; omega) (by omega) (by rw [gI_sI, if_pos ⟨rfl, rfl⟩, u.v.zrn]) (fun p hp => by
      rw [sI_ne _ _ (by omega), gI_sI, u.v.zsv]
      by_cases hpi : p = i
      · rw [if_pos ⟨rfl, hpi⟩, hpi]
      · rw [if_neg (by omega)]
        exact h2 p (by omega))
    rw [u.v.zrn, u.v.q] at a3
    rw [u.v.zsv, u.v.q] at a4
    refine ⟨M, ?_, u.trans a2, a3, a4⟩
    have h39 : B_X10_laysOrder_39 N (L_X10_laysOrder_7 N n) (nI i) (zI (nm (sv m) i)) (nI i) m = some M := by
      unfold B_X10_laysOrder_39 B_X10_laysOrder_58
      have h19 : gI (sI m 105 i (zI (nm (sv m) i))) 95 19 = nI (cnt (rn m) i) := by rw [sI_ne _ _ (by omega)]; exact h1
      rw [gd_t (inb_nI (by omega) (by omega)), nI_clamp (by omega), wr_eq, b2_of (m_isRanked (by omega) hX1 (by omega)), u1.v.zrn, h19, show (0 : Int32) = nI 0 from rfl, show (1 : Int32) = nI 1 from rfl, nI_add, nI_add, nI_add]
      rw [cnt_s] at a1
      cases hr : rn m i
      · rw [if_pos (by rfl), wr_eq]
        rw [hr] at a1
        exact a1
      · rw [if_neg (by decide), wr_eq]
        rw [hr] at a1
        exact a1
    show T_X10_laysOrder_7 N (L_X10_laysOrder_7 N n) _ _ = _
    unfold T_X10_laysOrder_7
    rw [h.b.Q.1, if_neg (nI_ge (by omega) (by omega)), b2_of (m_isRanked (by omega) h (by omega))]
    cases hr : rn m i
    · rw [if_pos (by rfl), show (0 : Int32) = zI (nm (sv m) i) by unfold nm; rw [if_pos (by unfold rn at hr; simpa using hr)]; rfl]
      exact h39
    · rw [if_neg (by decide), b2_of (m_normal (by omega) h (by omega) hr)]
      exact h39
theorem inP_all (m : Mem) : (fun q => rn m q && inP m (-1) q) = rn m := by
  funext q
  have : inP m (-1) q = true := by unfold inP; rw [decide_eq_true rfl, Bool.true_or]
  rw [this, Bool.and_true]
theorem m_lay2 {N : Nat} (hN : 17 < N) : ∀ d n i m, Rel m → i + d = nQ m → d < n → (∀ p, p < i → rn m p = true → gI m 104 (rk (rn m) (bf m) (nQ m) p) = nI p) →
    ∃ M, L_X10_laysOrder_70 N n (nI i) m = some M ∧ YE m M ∧ gI M 95 = gI m 95 ∧ gI M 105 = gI m 105 ∧ (∀ p, p < nQ m → rn m p = true → gI M 104 (rk (rn m) (bf m) (nQ m) p) = nI p) := by
  intro d
  induction d with
  | zero =>
    intro n i m h hi hn h2
    have hQ := h.b.Q.2
    obtain ⟨n, rfl⟩ : ∃ k, n = k + 1 := ⟨n - 1, by omega⟩
    obtain rfl : i = nQ m := by omega
    refine ⟨m, ?_, YE.refl m, rfl, rfl, h2⟩
    show T_X10_laysOrder_70 N (L_X10_laysOrder_70 N n) _ _ = _
    unfold T_X10_laysOrder_70
    rw [h.b.Q.1, if_pos (nI_le (by omega) (by omega))]
  | succ d ih =>
    intro n i m h hi hn h2
    have hQ := h.b.Q.2
    obtain ⟨n, rfl⟩ : ∃ k, n = k + 1 := ⟨n - 1, by omega⟩
    show ∃ M, T_X10_laysOrder_70 N (L_X10_laysOrder_70 N n) _ _ = some M ∧ _
    unfold T_X10_laysOrder_70
    rw [h.b.Q.1, if_neg (nI_ge (by omega) (by omega)), b2_of (m_isRanked (by omega) h (by omega))]
    cases hr : rn m i
    · rw [if_pos (by rfl), nI_1]
      exact ih n (i + 1) m h (by omega) (by omega) (fun p hp hrp => h2 p (by
        by_cases e : p = i
        · rw [e, hr] at hrp
          cases hrp
        · omega) hrp)
    · have hk := rk_lt (rn := rn m) (bf := bf m) (bf_irr m) (show i < nQ m by omega) hr
      have hkc := cnt_le (rn m) (nQ m)
      have hrk := m_rankIn hN h (-1) (show i < nQ m by omega) hr
      rw [inP_all] at hrk
      have u : YE m (sI m 104 (rk (rn m) (bf m) (nQ m) i) (nI i)) := YE.s _ (by omega)
      have hX := h.core u.core
      obtain ⟨M, a1, a2, a3, a4, a5⟩ := ih n (i + 1) _ hX (by rw [u.v.q]; omega) (by omega) (fun p hp hrp => by
        rw [u.v.zrn, u.v.zbf, u.v.q] at *
        rw [gI_sI]
        by_cases e : p = i
        · rw [e, if_pos ⟨rfl, rfl⟩]
        · rw [if_neg (fun hh => e ((rk_inj (bf_irr m) (bf_tr m) (fun a b => bf_tot m) (n := nQ m) (show i < nQ m by omega) (show p < nQ m by omega) hr hrp).2 hh.2))]
          exact h2 p (by omega) hrp)
      rw [u.v.zrn, u.v.zbf, u.v.q] at a5
      refine ⟨M, ?_, u.trans a2, by rw [a3, sI_ne _ _ (by omega)], by rw [a4, sI_ne _ _ (by omega)], a5⟩
      rw [if_neg (by decide), b2_of hrk, gd_t (inb_nI (by omega) (by omega)), nI_clamp (by omega), wr_eq, nI_1]
      exact a1
def ordM (M : Mem) (nr : Nat → Int32) (o : Nat → Nat) (c : Nat) : Prop := gI M 95 19 = nI c ∧ c ≤ 16 ∧ (∀ i, i < c → gI M 104 i = nI (o i) ∧ o i < nQ M ∧ gI M 105 (o i) = nr (o i))
theorem m_lays {N : Nat} (hN : 17 < N) {m : Mem} (h : Rel m) {o : Nat → Nat} (ho : oOK (rn m) (bf m) (nQ m) o) : ∃ M, f_X10_laysOrder N m = some M ∧ YE m M ∧ ordM M (fun p => zI (nm (sv m) p)) o (cnt (rn m) (nQ m)) := by
  have hQ := h.b.Q.2
  have hc := cnt_le (rn m) (nQ m)
  have u0 : YE m (sI m 95 19 0) := YE.s95 _ (by omega)
  have h0 := h.core u0.core
  obtain ⟨M1, a1, a2, a3, a4⟩ := m_lay1 hN (nQ m) N 0 (sI m 95 19 0) h0 (by rw [u0.v.q]; omega) (by omega) (by rw [gI_sI, if_pos ⟨rfl, rfl⟩]; rfl) (fun p hp => by omega)
  rw [u0.v.zrn, u0.v.q] at a3
  rw [u0.v.zsv, u0.v.q] at a4
  have u1 := u0.trans a2
  have h1 := h.core u1.core
  obtain ⟨M2, b1, b2, b3, b4, b5⟩ := m_lay2 hN (nQ m) N 0 M1 h1 (by rw [u1.v.q]; omega) (by omega) (fun p hp => by omega)
  rw [u1.v.zrn, u1.v.zbf, u1.v.q] at b5
  have u := u1.trans b2
  refine ⟨M2, ?_, u, by rw [b3]; exact a3, by omega, fun i hi => ?_⟩
  · unfold f_X10_laysOrder
    rw [wr_eq, l1_of (show L_X10_laysOrder_7 N N 0 (sI m 95 19 0) = _ from a1), l1_of (show L_X10_laysOrder_70 N N 0 M1 = _ from b1)]
  · obtain ⟨o1, o2, o3⟩ := ho i hi
    have := b5 (o i) o1 o2
    rw [o3] at this
    exact ⟨this, by rw [u.v.q]; exact o1, by rw [b4]; exact a4 _ o1⟩
theorem ordM.keep {M X : Mem} {nr : Nat → Int32} {o : Nat → Nat} {c : Nat} (h : ordM M nr o c) (e : gI X 96 = gI M 96) (e1 : gI X 95 19 = gI M 95 19) (e2 : gI X 104 = gI M 104) (e3 : gI X 105 = gI M 105) : ordM X nr o c := by
  unfold ordM nQ at *
  rw [e1, e2, e3, e]
  exact h
theorem m_fp {N : Nat} {nr : Nat → Int32} {o : Nat → Nat} {c : Nat} (mode line pa : Int32) : ∀ d n i (go : Bool) rest sh M, Rel M → ordM M nr o c → i + d = c → d < n → (∀ j, j < 16 → gI M 106 j = sh j) →
    ∃ M', L_X10_funds_17 N n mode pa line rest (if go then 0 else 1) (nI i) M = some (pa, (fp (gI M 96) nr o mode line pa d i go rest sh).1, M') ∧ YE M M' ∧ (∀ k, k ≠ 106 → gI M' k = gI M k) ∧ (∀ j, j < 16 → gI M' 106 j = (fp (gI M 96) nr o mode line pa d i go rest sh).2 j) := by
  intro d
  induction d with
  | zero =>
    intro n i go rest sh M h ho hi hn hs
    obtain ⟨n, rfl⟩ : ∃ k, n = k + 1 := ⟨n - 1, by omega⟩
    refine ⟨M, ?_, YE.refl M, fun _ _ => rfl, hs⟩
    have := ho.2.1
    show T_X10_funds_17 N (L_X10_funds_17 N n) _ _ _ _ _ _ _ = _
    unfold T_X10_funds_17
    rw [ho.1, if_pos (nI_le (by omega) (by omega))]
    rfl
  | succ d ih =>
    intro n i go rest sh M h ho hi hn hs
    obtain ⟨n, rfl⟩ : ∃ k, n = k + 1 := ⟨n - 1, by omega⟩
    have ho' := ho
    obtain ⟨c1, c2, c3⟩ := ho
    obtain ⟨o1, o2, o3⟩ := c3 i (by omega)
    have hQ := h.b.Q.2
    obtain ⟨ak1, ak2, ak3⟩ := h.b.asks o2
    have hp0 : f_X10_proposal N (nI (o i)) 0 M = some (gI M 96 (59 + 5 * o i), M) := m_proposal N (by omega) (show 0 < 5 by omega) M
    have hp3 : f_X10_proposal N (nI (o i)) 3 M = some (gI M 96 (62 + 5 * o i), M) := m_proposal N (by omega) (show 3 < 5 by omega) M
    have hp4 : f_X10_proposal N (nI (o i)) 4 M = some (gI M 96 (63 + 5 * o i), M) := m_proposal N (by omega) (show 4 < 5 by omega) M
    rw [fp_s]
    show ∃ M', T_X10_funds_17 N (L_X10_funds_17 N n) _ _ _ _ _ _ _ = _ ∧ _
    unfold T_X10_funds_17
    rw [c1, if_neg (nI_ge (by omega) (by omega))]
    cases go
    · rw [if_neg (by decide)]
      exact ⟨M, rfl, YE.refl M, fun _ _ => rfl, hs⟩
    · rw [if_pos (by rfl), gd_t (inb_nI (by omega) (by omega)), nI_clamp (by omega), o1, b2_of hp0, if_pos (show (true = true) from rfl)]
      by_cases hpa : gI M 96 (59 + 5 * o i) = pa
      · rw [if_pos hpa, if_pos hpa, gd_t (inb_nI (by omega) (by omega)), nI_clamp (by omega), o3]
        by_cases hl : nr (o i) < line
        · rw [if_neg (by rw [Int32.not_le]; exact hl), if_pos hl, nI_1]
          exact ih n (i + 1) true rest sh M h ho' (by omega) (by omega) hs
        · rw [if_pos (Int32.not_lt.mp hl), if_neg hl, b2_of hp3]
          have key : ∀ (s : Int32) (b : Bool), ∃ M', L_X10_funds_17 N n mode pa line (rest - s) (if b then 0 else 1) (nI (i + 1)) (sI M 106 (o i) s) = some (pa, (fp (gI M 96) nr o mode line pa d (i + 1) b (rest - s) (upN sh (o i) s)).1, M') ∧ YE M M' ∧ (∀ k, k ≠ 106 → gI M' k = gI M k) ∧ (∀ j, j < 16 → gI M' 106 j = (fp (gI M 96) nr o mode line pa d (i + 1) b (rest - s) (upN sh (o i) s)).2 j) := by
            intro s b
            have u : YE M (sI M 106 (o i) s) := YE.s _ (by omega)
            have hX := h.core u.core
            obtain ⟨M', a1, a2, a3, a4⟩ := ih n (i + 1) b (rest - s) (upN sh (o i) s) (sI M 106 (o i) s) hX (ho'.keep (sI_ne _ _ (by omega)) (by rw [sI_ne _ _ (by omega)]) (sI_ne _ _ (by omega)) (sI_ne _ _ (by omega))) (by omega) (by omega) (fun j hj => by
              rw [upN_sI]
              by_cases hjo : j = o i
              · rw [hjo, upN_same, upN_same]
              · rw [upN_ne _ _ hjo, upN_ne _ _ hjo]
                exact hs j hj)
            rw [u.1 96 (by omega)] at a1 a4
            exact ⟨M', a1, u.trans a2, fun k hk => by rw [a3 k hk, sI_ne _ _ hk], a4⟩
          have h145 : ∀ (v8 s : Int32), B_X10_funds_145 N (L_X10_funds_17 N n) mode pa line rest (nI i) (nI (o i)) v8 s (nI (o i)) M = L_X10_funds_17 N n mode pa line (rest - s) (if v8 = 0 then (if mode = 1 then 0 else 1) else 0) (nI (i + 1)) (sI M 106 (o i) s) := by
            intro v8 s
            unfold B_X10_funds_145 B_X10_funds_172 B_X10_funds_173
            rw [gd_t (inb_nI (by omega) (by omega)), nI_clamp (by omega), wr_eq, gd_t (inb_nI (by omega) (by omega)), show gI (sI M 106 (o i) s) 106 (o i) = s by rw [gI_sI, if_pos ⟨rfl, rfl⟩], nI_1]
            by_cases h8 : v8 = 0
            · rw [if_pos h8, if_pos h8]
              by_cases hm : mode = 1
              · rw [if_pos hm, if_pos hm]
              · rw [if_neg hm, if_neg hm]
            · rw [if_neg h8, if_neg h8]
          unfold B_X10_funds_82 B_X10_funds_110 B_X10_funds_111
          by_cases hall : rest < gI M 96 (62 + 5 * o i)
          · -- not all: the share is below what was asked
            have hne : ¬ shr mode rest (gI M 96 (62 + 5 * o i)) (gI M 96 (63 + 5 * o i)) = gI M 96 (62 + 5 * o i) := by
              unfold shr
              rw [if_pos hall]
              have hz : ¬ (0 : Int32) = gI M 96 (62 + 5 * o i) := by
                rw [ak1]
                intro e
                exact nI_ne0 (n := vN (gI M 96 (62 + 5 * o i))) (by omega) (by omega) e.symm
              split
              · split
                · exact hz
                · intro e
                  rw [← e] at hall
                  exact Int32.lt_irrefl hall
              · exact hz
            rw [decide_eq_false hne, Bool.or_false, if_pos hall, if_pos rfl]
            have hgo : (if (0 : Int32) = 0 then (if mode = 1 then (0 : Int32) else 1) else 0) = if decide (mode = 1) = true then 0 else 1 := by
              rw [if_pos rfl]
              by_cases hm : mode = 1
              · rw [if_pos hm, if_pos (decide_eq_true hm)]
              · rw [if_neg hm, if_neg (fun e => hm (of_decide_eq_true e))]
            by_cases hm2 : mode = 2
            · rw [if_pos hm2, b2_of hp4]
              by_cases hle : rest < gI M 96 (63 + 5 * o i)
              · rw [if_pos hle, if_pos rfl, if_pos rfl, h145, hgo, show shr mode rest (gI M 96 (62 + 5 * o i)) (gI M 96 (63 + 5 * o i)) = 0 by unfold shr; rw [if_pos hall, if_pos hm2, if_pos hle]]
                exact key 0 _
              · rw [if_neg hle, if_pos rfl, if_neg (by decide), h145, hgo, show shr mode rest (gI M 96 (62 + 5 * o i)) (gI M 96 (63 + 5 * o i)) = rest by unfold shr; rw [if_pos hall, if_pos hm2, if_neg hle]]
                exact key rest _
            · rw [if_neg hm2, if_pos rfl, if_pos rfl, h145, hgo, show shr mode rest (gI M 96 (62 + 5 * o i)) (gI M 96 (63 + 5 * o i)) = 0 by unfold shr; rw [if_pos hall, if_neg hm2]]
              exact key 0 _
          · have hsh : shr mode rest (gI M 96 (62 + 5 * o i)) (gI M 96 (63 + 5 * o i)) = gI M 96 (62 + 5 * o i) := by
              unfold shr
              rw [if_neg hall]
            rw [if_neg hall, if_neg (by decide), if_neg (by decide), b2_of hp3, h145, if_neg (by decide), hsh, decide_eq_true rfl, Bool.or_true]
            exact key _ true
      · rw [if_neg hpa, if_neg hpa, nI_1]
        exact ih n (i + 1) true rest sh M h ho' (by omega) (by omega) hs
theorem m_fa {N : Nat} (hN : 17 < N) {nr : Nat → Int32} {o : Nat → Nat} {c : Nat} (mode line : Int32) : ∀ d n pa sh le M, Rel M → ordM M nr o c → pa + d = nP M → d < n → (∀ j, j < 16 → gI M 106 j = sh j) → (∀ j, j < pa → gI M 107 j = le j) →
    ∃ M', L_X10_fundsAll_33 N n mode line (nI pa) M = some (line, M') ∧ YE M M' ∧ gI M' 95 19 = gI M 95 19 ∧ gI M' 104 = gI M 104 ∧ gI M' 105 = gI M 105 ∧ gI M' 95 22 = (fa (gI M 96) nr o c mode line d pa (gI M 95 22) sh le).1 ∧ (∀ j, j < 16 → gI M' 106 j = (fa (gI M 96) nr o c mode line d pa (gI M 95 22) sh le).2.1 j) ∧ (∀ j, j < nP M → gI M' 107 j = (fa (gI M 96) nr o c mode line d pa (gI M 95 22) sh le).2.2 j) := by
  intro d
  induction d with
  | zero =>
    intro n pa sh le M h ho hi hn hs hl
    have hP := h.b.P.2
    obtain ⟨n, rfl⟩ : ∃ k, n = k + 1 := ⟨n - 1, by omega⟩
    refine ⟨M, ?_, YE.refl M, rfl, rfl, rfl, rfl, hs, fun j hj => hl j (by omega)⟩
    show T_X10_fundsAll_33 N (L_X10_fundsAll_33 N n) _ _ _ _ = _
    unfold T_X10_fundsAll_33
    rw [h.b.P.1, if_pos (nI_le (by omega) (by omega))]
  | succ d ih =>
    intro n pa sh le M h ho hi hn hs hl
    have hP := h.b.P.2
    have hc := ho.2.1
    obtain ⟨n, rfl⟩ : ∃ k, n = k + 1 := ⟨n - 1, by omega⟩
    obtain ⟨M1, a1, a2, a3, a4⟩ := m_fp (N := N) (nr := nr) (o := o) (c := c) mode line (nI pa) c N 0 true (gI M 96 (7 + pa)) sh M h ho (by omega) (by omega) hs
    rw [fa_s]
    generalize hr : fp (gI M 96) nr o mode line (nI pa) c 0 true (gI M 96 (7 + pa)) sh = r at *
    have u1 : YE M1 (sI (sI M1 107 pa r.1) 95 22 (gI M 95 22 + r.1)) := (YE.s _ (by omega)).trans (YE.s95 _ (by omega))
    have u := a2.trans u1
    have hX := h.core u.core
    have k19 : gI (sI (sI M1 107 pa r.1) 95 22 (gI M 95 22 + r.1)) 95 19 = gI M 95 19 := by rw [gI_sI, if_neg (by omega), sI_ne _ _ (by omega), a3 95 (by omega)]
    have k104 : gI (sI (sI M1 107 pa r.1) 95 22 (gI M 95 22 + r.1)) 104 = gI M 104 := by rw [sI_ne _ _ (by omega), sI_ne _ _ (by omega), a3 104 (by omega)]
    have k105 : gI (sI (sI M1 107 pa r.1) 95 22 (gI M 95 22 + r.1)) 105 = gI M 105 := by rw [sI_ne _ _ (by omega), sI_ne _ _ (by omega), a3 105 (by omega)]
    obtain ⟨M', b1, b2, b6, b7, b8, b3, b4, b5⟩ := ih n (pa + 1) r.2 (upN le pa r.1) (sI (sI M1 107 pa r.1) 95 22 (gI M 95 22 + r.1)) hX (ho.keep (u.1 96 (by omega)) k19 k104 k105) (by rw [u.v.p]; omega) (by omega) (fun j hj => by rw [sI_ne _ _ (by omega), sI_ne _ _ (by omega)]; exact a4 j hj) (fun j hj => by
      rw [sI_ne _ _ (by omega), upN_sI, a3 107 (by omega)]
      by_cases hjp : j = pa
      · rw [hjp, upN_same, upN_same]
      · rw [upN_ne _ _ hjp, upN_ne _ _ hjp]
        exact hl j (by omega))
    rw [u.1 96 (by omega), show gI (sI (sI M1 107 pa r.1) 95 22 (gI M 95 22 + r.1)) 95 22 = gI M 95 22 + r.1 by rw [gI_sI, if_pos ⟨rfl, rfl⟩]] at b3 b4 b5
    rw [u.v.p] at b5
    refine ⟨M', ?_, u.trans b2, b6.trans k19, b7.trans k104, b8.trans k105, b3, b4, b5⟩
    show T_X10_fundsAll_33 N (L_X10_fundsAll_33 N n) _ _ _ _ = _
    unfold T_X10_fundsAll_33
    have hf : f_X10_funds N mode (nI pa) line M = some (sI M1 107 pa r.1) := by
      unfold f_X10_funds B_X10_funds_181
      rw [show (7 : Int32) + nI pa = nI (7 + pa) from nI_add 7 pa, gd_t (inb_nI (by omega) (by omega)), nI_clamp (by omega), l3_of (show L_X10_funds_17 N N mode (nI pa) line (gI M 96 (7 + pa)) 0 0 M = _ from a1), gd_t (inb_nI (by omega) (by omega)), nI_clamp (by omega), wr_eq]
    rw [h.b.P.1, if_neg (nI_ge (by omega) (by omega)), b1_of hf, gd_t (inb_nI (by omega) (by omega)), nI_clamp (by omega), show gI (sI M1 107 pa r.1) 95 22 = gI M 95 22 by rw [sI_ne _ _ (by omega), a3 95 (by omega)], show gI (sI M1 107 pa r.1) 107 pa = r.1 by rw [gI_sI, if_pos ⟨rfl, rfl⟩], wr_eq, nI_1]
    exact b1
theorem m_fq {N : Nat} {nr : Nat → Int32} {o : Nat → Nat} {c : Nat} (line : Int32) : ∀ d n i sh M, Rel M → ordM M nr o c → i + d = c → d < n → (∀ j, j < 16 → gI M 106 j = sh j) →
    ∃ M', L_X10_fundsAll_73 N n line (nI i) M = some M' ∧ YE M M' ∧ gI M' 95 19 = gI M 95 19 ∧ gI M' 104 = gI M 104 ∧ gI M' 105 = gI M 105 ∧ gI M' 107 = gI M 107 ∧ gI M' 95 22 = (fq (gI M 96) nr o line d i (gI M 95 22) sh).1 ∧ (∀ j, j < 16 → gI M' 106 j = (fq (gI M 96) nr o line d i (gI M 95 22) sh).2 j) := by
  intro d
  induction d with
  | zero =>
    intro n i sh M h ho hi hn hs
    have hc := ho.2.1
    obtain ⟨n, rfl⟩ : ∃ k, n = k + 1 := ⟨n - 1, by omega⟩
    refine ⟨M, ?_, YE.refl M, rfl, rfl, rfl, rfl, rfl, hs⟩
    show T_X10_fundsAll_73 N (L_X10_fundsAll_73 N n) _ _ _ = _
    unfold T_X10_fundsAll_73
    rw [ho.1, if_pos (nI_le (by omega) (by omega))]
  | succ d ih =>
    intro n i sh M h ho hi hn hs
    obtain ⟨n, rfl⟩ : ∃ k, n = k + 1 := ⟨n - 1, by omega⟩
    have ho' := ho
    obtain ⟨c1, c2, c3⟩ := ho
    obtain ⟨o1, o2, o3⟩ := c3 i (by omega)
    have hQ := h.b.Q.2
    have hp3 : f_X10_proposal N (nI (o i)) 3 M = some (gI M 96 (62 + 5 * o i), M) := m_proposal N (by omega) (show 3 < 5 by omega) M
    have skip := ih n (i + 1) sh M h ho' (by omega) (by omega) hs
    rw [c1] at skip
    rw [fq_s]
    show ∃ M', T_X10_fundsAll_73 N (L_X10_fundsAll_73 N n) _ _ _ = _ ∧ _
    unfold T_X10_fundsAll_73
    rw [c1, if_neg (nI_ge (by omega) (by omega)), gd_t (inb_nI (by omega) (by omega)), nI_clamp (by omega), o1, gd_t (inb_nI (by omega) (by omega)), nI_clamp (by omega), o3, hs (o i) (by omega), nI_1, b2_of hp3]
    by_cases hz : sh (o i) = 0
    · rw [if_pos hz]
      by_cases hl : nr (o i) < line
      · rw [if_pos hl, if_pos hl]
        exact skip
      · rw [if_neg hl, if_neg hl, if_pos hz]
        by_cases hp : gI M 95 22 < gI M 96 (62 + 5 * o i)
        · rw [if_pos hp, if_pos hp]
          exact skip
        · rw [if_neg hp, if_neg hp, b2_of hp3]
          generalize gI M 96 (62 + 5 * o i) = s
          rw [wr_eq, show gI (sI M 106 (o i) s) 106 (o i) = s by rw [gI_sI, if_pos ⟨rfl, rfl⟩], sI_ne _ _ (show (95 : Nat) ≠ 106 by omega), wr_eq]
          have u : YE M (sI (sI M 106 (o i) s) 95 22 (gI M 95 22 - s)) := (YE.s _ (by omega)).trans (YE.s95 _ (by omega))
          have hX := h.core u.core
          have k19 : gI (sI (sI M 106 (o i) s) 95 22 (gI M 95 22 - s)) 95 19 = gI M 95 19 := by rw [gI_sI, if_neg (by omega), sI_ne _ _ (by omega)]
          have k104 : gI (sI (sI M 106 (o i) s) 95 22 (gI M 95 22 - s)) 104 = gI M 104 := by rw [sI_ne _ _ (by omega), sI_ne _ _ (by omega)]
          have k105 : gI (sI (sI M 106 (o i) s) 95 22 (gI M 95 22 - s)) 105 = gI M 105 := by rw [sI_ne _ _ (by omega), sI_ne _ _ (by omega)]
          obtain ⟨M', a1, a2, a6, a7, a8, a3, a4, a5⟩ := ih n (i + 1) (upN sh (o i) s) (sI (sI M 106 (o i) s) 95 22 (gI M 95 22 - s)) hX (ho'.keep (u.1 96 (by omega)) k19 k104 k105) (by omega) (by omega) (fun j hj => by
            rw [sI_ne _ _ (by omega), upN_sI]
            by_cases hjo : j = o i
            · rw [hjo, upN_same, upN_same]
            · rw [upN_ne _ _ hjo, upN_ne _ _ hjo]
              exact hs j hj)
          rw [u.1 96 (by omega), show gI (sI (sI M 106 (o i) s) 95 22 (gI M 95 22 - s)) 95 22 = gI M 95 22 - s by rw [gI_sI, if_pos ⟨rfl, rfl⟩]] at a4 a5
          exact ⟨M', a1, u.trans a2, a6.trans (k19.trans c1), a7.trans k104, a8.trans k105, by rw [a3, sI_ne _ _ (by omega), sI_ne _ _ (by omega)], a4, a5⟩
    · rw [if_neg hz, if_neg hz]
      by_cases hl : nr (o i) < line
      · rw [if_pos hl]
        exact skip
      · rw [if_neg hl]
        exact skip
theorem m_fill {N : Nat} (mode line : Int32) : ∀ d n i M, i + d = 16 → d < n → ∃ M', L_X10_fundsAll_2 N n mode line (nI i) M = some (mode, line, M') ∧ YE M M' ∧ (∀ k, k ≠ 106 → gI M' k = gI M k) ∧ (∀ j, gI M' 106 j = if i ≤ j ∧ j < 16 then 0 else gI M 106 j) := by
  intro d
  induction d with
  | zero =>
    intro n i M hi hn
    obtain ⟨n, rfl⟩ : ∃ k, n = k + 1 := ⟨n - 1, by omega⟩
    obtain rfl : i = 16 := by omega
    refine ⟨M, ?_, YE.refl M, fun _ _ => rfl, fun j => by rw [if_neg (by omega)]⟩
    show T_X10_fundsAll_2 N (L_X10_fundsAll_2 N n) _ _ _ _ = _
    unfold T_X10_fundsAll_2
    rw [if_pos (by decide)]
  | succ d ih =>
    intro n i M hi hn
    obtain ⟨n, rfl⟩ : ∃ k, n = k + 1 := ⟨n - 1, by omega⟩
    have u : YE M (sI M 106 i 0) := YE.s _ (by omega)
    obtain ⟨M', a1, a2, a3, a4⟩ := ih n (i + 1) (sI M 106 i 0) (by omega) (by omega)
    refine ⟨M', ?_, u.trans a2, fun k hk => by rw [a3 k hk, sI_ne _ _ hk], fun j => ?_⟩
    · show T_X10_fundsAll_2 N (L_X10_fundsAll_2 N n) _ _ _ _ = _
      unfold T_X10_fundsAll_2
      rw [if_neg (show ¬ (16 : Int32) ≤ nI i from nI_ge (b := 16) (by omega) (by omega)), gd_t (inb_nI (by omega) (by omega)), nI_clamp (by omega), wr_eq, nI_1]
      exact a1
    · rw [a4]
      by_cases hj : i + 1 ≤ j ∧ j < 16
      · rw [if_pos hj, if_pos (by omega)]
      · rw [if_neg hj, gI_sI]
        by_cases hji : j = i
        · rw [if_pos ⟨rfl, hji⟩, if_pos (by omega)]
        · rw [if_neg (by omega), if_neg (by omega)]
theorem m_fundsAll {N : Nat} (hN : 17 < N) {nr : Nat → Int32} {o : Nat → Nat} {c : Nat} (mode line : Int32) {M : Mem} (h : Rel M) (ho : ordM M nr o c) : ∃ M', f_X10_fundsAll N mode line M = some M' ∧ YE M M' ∧ ordM M' nr o c ∧ gI M' 95 22 = (fiS (gI M 96) nr o c (nP M) mode line).1 ∧ (∀ j, j < 16 → gI M' 106 j = (fiS (gI M 96) nr o c (nP M) mode line).2 j) ∧ (∀ j, j < nP M → gI M' 107 j = (fin (gI M 96) nr o c (nP M) mode line).2.2 j) := by
  have hP := h.b.P.2
  have hc := ho.2.1
  obtain ⟨M1, a1, a2, a3, a4⟩ := m_fill (N := N) mode line 16 N 0 M (by omega) (by omega)
  have u2 : YE M1 (sI M1 95 22 (gI M 96 5)) := YE.s95 _ (by omega)
  have u := a2.trans u2
  have h2 := h.core u.core
  have ho2 : ordM (sI M1 95 22 (gI M 96 5)) nr o c := ho.keep (u.1 96 (by omega)) (by rw [gI_sI, if_neg (by omega), a3 95 (by omega)]) (by rw [sI_ne _ _ (by omega), a3 104 (by omega)]) (by rw [sI_ne _ _ (by omega), a3 105 (by omega)])
  obtain ⟨M3, b1, b2, b6, b7, b8, b3, b4, b5⟩ := m_fa hN (nr := nr) (o := o) (c := c) mode line (nP M) N 0 (fun _ => 0) (fun _ => 0) (sI M1 95 22 (gI M 96 5)) h2 ho2 (by rw [u.v.p]; omega) (by omega) (fun j hj => by rw [sI_ne _ _ (by omega), a4, if_pos (by omega)]) (fun j hj => by omega)
  rw [u.1 96 (by omega), show gI (sI M1 95 22 (gI M 96 5)) 95 22 = gI M 96 5 by rw [gI_sI, if_pos ⟨rfl, rfl⟩]] at b3 b4 b5
  rw [u.v.p] at b5
  have u3 := u.trans b2
  have h3 := h.core u3.core
  have ho3 := ho2.keep (b2.1 96 (by omega)) b6 b7 b8
  obtain ⟨M4, d1, d2, d6, d7, d8, d3, d4, d5⟩ := m_fq (N := N) (nr := nr) (o := o) (c := c) line c N 0 _ M3 h3 ho3 (by omega) (by omega) b4
  rw [u3.1 96 (by omega), b3] at d4 d5
  refine ⟨M4, ?_, u3.trans d2, ho3.keep (d2.1 96 (by omega)) d6 d7 d8, d4, d5, fun j hj => by rw [d3]; exact b5 j hj⟩
  unfold f_X10_fundsAll
  rw [l3_of (show L_X10_fundsAll_2 N N mode line 0 M = _ from a1), a3 96 (by omega), wr_eq, l2_of (show L_X10_fundsAll_33 N N mode line 0 (sI M1 95 22 (gI M 96 5)) = _ from b1), l1_of (show L_X10_fundsAll_73 N N line 0 M3 = _ from d1)]
theorem m_fundedNow {N : Nat} (hN : 16 < N) {M : Mem} {sh : Nat → Int32} (hs : ∀ j, j < 16 → gI M 106 j = sh j) : f_X10_fundedNow N M = some (nI (wn sh 16), M) := by
  unfold f_X10_fundedNow
  refine (l2_of (y := nI (wn sh 16)) (m := M) ?_).trans rfl
  refine loop_fn (fun k i => L_X10_fundedNow_4 N k (nI (wn sh i)) (nI i) M) 16 _ (fun k i hi => ?_) (fun k => ?_) 16 N 0 (by omega) (by omega)
  · show T_X10_fundedNow_4 N (L_X10_fundedNow_4 N k) _ _ _ = L_X10_fundedNow_4 N k _ _ _
    unfold T_X10_fundedNow_4
    rw [if_neg (show ¬ (16 : Int32) ≤ nI i from nI_ge (b := 16) hi (by omega)), gd_t (inb_nI (by omega) (by omega)), nI_clamp (by omega), hs i (by omega), nI_1]
    show _ = L_X10_fundedNow_4 N k (nI (if sh i ≤ 0 then wn sh i else wn sh i ||| 2 ^ i)) (nI (i + 1)) M
    by_cases hz : sh i ≤ 0
    · rw [if_pos hz, if_pos hz, show (0 : Int32) = nI 0 from rfl, nx_or, Nat.or_zero]
    · rw [if_neg hz, if_neg hz, or_bit (by omega)]
  · show T_X10_fundedNow_4 N (L_X10_fundedNow_4 N k) _ _ _ = _
    unfold T_X10_fundedNow_4
    rw [if_pos (by decide)]
