/-! CHOICES: the class's lists in memory -/
def RowN (m : Mem) (k : Nat) (f : Nat → Nat) (n : Nat) : Prop := ∀ i, i < n → gI m k i = nI (f i)
def ChS (m : Mem) (q : Nat) (c w : Nat → Nat) (n : Nat) : Prop := ChAt m q ∧ gI m q 2 = nI n ∧ RowN m (gR m q 0) c n ∧ RowN m (gR m q 1) w n
def isC (q : Nat) : Prop := q = 61 ∨ q = 66
theorem ch_k {q : Nat} (h : isC q) : kd q = 0 ∧ kd (q + 1) = 12 ∧ kd (q + 2) = 12 ∧ kd (q + 3) = 12 ∧ kd (q + 4) = 12 ∧ ln (q + 1) = 256 ∧ ln (q + 2) = 256 ∧ ln (q + 3) = 256 ∧ ln (q + 4) = 256 := by
  rcases h with rfl | rfl <;> decide
/-- where the four rows lie -/
theorem ch_r {m : Mem} {q : Nat} (h : ChAt m q) : (gR m q 0 = q + 1 ∨ gR m q 0 = q + 3) ∧ (gR m q 1 = q + 2 ∨ gR m q 1 = q + 4) ∧ (gR m q 3 = q + 1 ∨ gR m q 3 = q + 3) ∧ (gR m q 4 = q + 2 ∨ gR m q 4 = q + 4) ∧ gR m q 0 ≠ gR m q 3 ∧ gR m q 1 ≠ gR m q 4 := by
  rcases h with ⟨h1, h2, h3, h4⟩ | ⟨h1, h2, h3, h4⟩ <;> rw [h1, h2, h3, h4] <;> omega
theorem ch_ok {q k j : Nat} (h : isC q) (hk : k = q + 1 ∨ k = q + 2 ∨ k = q + 3 ∨ k = q + 4) (hj : j < 256) : okA 12 k (nI j) = true := by
  obtain ⟨_, a1, a2, a3, a4, b1, b2, b3, b4⟩ := ch_k h
  unfold okA
  rcases hk with rfl | rfl | rfl | rfl
  · rw [a1, b1, inb_nI hj (by omega)]; rfl
  · rw [a2, b2, inb_nI hj (by omega)]; rfl
  · rw [a3, b3, inb_nI hj (by omega)]; rfl
  · rw [a4, b4, inb_nI hj (by omega)]; rfl
/-- only the rows and counters of the Choices at q have changed; its references too, if b -/
def ChE (q : Nat) (m M : Mem) : Prop := (∀ k, ¬ (q ≤ k ∧ k ≤ q + 4) → gI M k = gI m k) ∧ (∀ k j, k ≠ q → gR M k j = gR m k j) ∧ (∀ k j, gJ M k j = gJ m k j) ∧ (∀ k j, gD M k j = gD m k j)
theorem ChE.refl (q : Nat) (m : Mem) : ChE q m m := ⟨fun _ _ => rfl, fun _ _ _ => rfl, fun _ _ => rfl, fun _ _ => rfl⟩
theorem ChE.trans {q : Nat} {a b c : Mem} (h : ChE q a b) (h' : ChE q b c) : ChE q a c := ⟨fun k hk => (h'.1 k hk).trans (h.1 k hk), fun k j hk => (h'.2.1 k j hk).trans (h.2.1 k j hk), fun k j => (h'.2.2.1 k j).trans (h.2.2.1 k j), fun k j => (h'.2.2.2 k j).trans (h.2.2.2 k j)⟩
theorem ChE.sI (q : Nat) (m : Mem) {k j : Nat} {v : Int32} (hk : q ≤ k ∧ k ≤ q + 4) : ChE q m (sI m k j v) := ⟨fun k' hk' => sI_ne _ _ (by omega), fun _ _ _ => rfl, fun _ _ => rfl, fun _ _ => rfl⟩
/-- the merge under way, in memory -/
def MgS (M : Mem) (q : Nat) (c w : Nat → Nat) (n k : Nat) (nc nw : Nat → Nat) : Prop := ChS M q c w n ∧ gI M q 5 = nI k ∧ RowN M (gR M q 3) nc k ∧ RowN M (gR M q 4) nw k
theorem c_keep (N : Nat) {q : Nat} (hq : isC q) {M : Mem} {c w nc nw : Nat → Nat} {n k x y : Nat} (h : MgS M q c w n k nc nw) (hk : k < 256) (hy : y < 2 ^ 31) (hnw : ∀ i, i < k → nw i < 2 ^ 31) :
    ∃ M', f_X0_keep N q (nI x) (nI y) M = some M' ∧ ChE q M M' ∧ (∀ j, gR M' q j = gR M q j) ∧ (if kpq k nw y then MgS M' q c w n (k + 1) (upF nc k x) (upF nw k y) else MgS M' q c w n k nc nw) := by
  obtain ⟨⟨s1, s2, s3, s4⟩, s5, s6, s7⟩ := h
  obtain ⟨r0, r1, r3, r4, ne0, ne1⟩ := ch_r s1
  obtain ⟨kq, _⟩ := ch_k hq
  unfold f_X0_keep
  rw [gd_t (by rw [kq]; rfl), s5]
  have h22 : B_X0_keep_22 N q (nI x) (nI y) M = some (sI (sI (sI M (gR M q 3) k (nI x)) (gR M q 4) k (nI y)) q 5 (nI (k + 1))) := by
    unfold B_X0_keep_22 B_X0_keep_27
    rw [if_neg (by decide), gd_t (by rw [kq]; rfl), s5, if_neg (show ¬ (256 : Int32) ≤ nI k from nI_ge (b := 256) hk (by omega)), gd_t (ch_ok hq (by omega) hk), nI_clamp (by omega), wr_eq, show gI (sI M (gR M q 3) k (nI x)) q 5 = nI k by rw [sI_ne _ _ (by omega)]; exact s5, show gR (sI M (gR M q 3) k (nI x)) q 4 = gR M q 4 from rfl, gd_t (ch_ok hq (by omega) hk), nI_clamp (by omega), wr_eq, wr_eq, show gI (sI (sI M (gR M q 3) k (nI x)) (gR M q 4) k (nI y)) q 5 = nI k by rw [sI_ne _ _ (by omega), sI_ne _ _ (by omega)]; exact s5, nI_1]
  have yes : kpq k nw y = true → ∃ M', B_X0_keep_22 N q (nI x) (nI y) M = some M' ∧ ChE q M M' ∧ (∀ j, gR M' q j = gR M q j) ∧ (if kpq k nw y then MgS M' q c w n (k + 1) (upF nc k x) (upF nw k y) else MgS M' q c w n k nc nw) := by
    intro hkq
    refine ⟨_, h22, ((ChE.sI q _ (by omega)).trans (ChE.sI q _ (by omega))).trans (ChE.sI q _ (by omega)), fun _ => rfl, ?_⟩
    rw [if_pos hkq]
    refine ⟨⟨s1, ?_, fun i hi => ?_, fun i hi => ?_⟩, ?_, fun i hi => ?_, fun i hi => ?_⟩
    · rw [gI_sI, if_neg (by omega), gI_sI, if_neg (by omega), gI_sI, if_neg (by omega)]
      exact s2
    · change gI _ (gR M q 0) i = _
      rw [gI_sI, if_neg (by omega), gI_sI, if_neg (by omega), gI_sI, if_neg (by omega)]
      exact s3 i hi
    · change gI _ (gR M q 1) i = _
      rw [gI_sI, if_neg (by omega), gI_sI, if_neg (by omega), gI_sI, if_neg (by omega)]
      exact s4 i hi
    · rw [gI_sI, if_pos ⟨rfl, rfl⟩]
    · change gI _ (gR M q 3) i = _
      unfold upF
      rw [gI_sI, if_neg (by omega), gI_sI, if_neg (by omega), gI_sI]
      by_cases e : i = k
      · rw [if_pos ⟨rfl, e⟩, if_pos e]
      · rw [if_neg (by omega), if_neg e]
        exact s6 i (by omega)
    · change gI _ (gR M q 4) i = _
      unfold upF
      rw [gI_sI, if_neg (by omega), gI_sI]
      by_cases e : i = k
      · rw [if_pos ⟨rfl, e⟩, if_pos e]
      · rw [if_neg (by omega), gI_sI, if_neg (by omega), if_neg e]
        exact s7 i (by omega)
  by_cases h0 : k = 0
  · rw [if_pos (by rw [h0]; rfl)]
    exact yes (by unfold kpq; rw [decide_eq_true h0, Bool.true_or])
  · rw [if_neg (nI_ne0 (by omega) (by omega)), show nI k - 1 = nI (k - 1) by rw [show k = (k - 1) + 1 by omega, nI_pred]; rfl, gd_t (ch_ok hq (by omega) (by omega)), nI_clamp (by omega), s7 _ (by omega)]
    have hb := hnw (k - 1) (by omega)
    by_cases hl : nw (k - 1) < y
    · rw [if_neg (nI_ge hl (by omega))]
      exact yes (by unfold kpq; rw [decide_eq_true hl, Bool.or_true])
    · rw [if_pos (nI_le (by omega) (by omega))]
      have hkq : kpq k nw y = false := by unfold kpq; rw [decide_eq_false h0, decide_eq_false hl]; rfl
      refine ⟨M, ?_, ChE.refl q M, fun _ => rfl, ?_⟩
      · unfold B_X0_keep_27
        rw [if_pos rfl]
      · rw [if_neg (by rw [hkq]; decide)]
        exact ⟨⟨s1, s2, s3, s4⟩, s5, s6, s7⟩
theorem c_merge {N : Nat} {q : Nat} (hq : isC q) {c w : Nat → Nat} {n a b : Nat} (hn : n ≤ 128) (hcb : ∀ i, i < n → c i ≤ 80000 ∧ w i ≤ 40000000) (ha : a ≤ 10000) (hb : b ≤ 5000000) (hc : ∀ i j, i < j → j < n → c i ≤ c j) : ∀ d t u v k nc nw M, u + v + d = 2 * n → d < t → MgS M q c w n k nc nw → MI c w n a b u v k nc nw →
    ∃ M' k' nc' nw', L_X0_add_13 N t q (nI a) (nI b) (nI u) (nI v) (nI (u + v)) M = some (q, M') ∧ ChE q M M' ∧ (∀ j, gR M' q j = gR M q j) ∧ MgS M' q c w n k' nc' nw' ∧ MI c w n a b n n k' nc' nw' := by
  intro d
  induction d with
  | zero =>
    intro t u v k nc nw M hd ht hm hi
    obtain ⟨t, rfl⟩ : ∃ k, t = k + 1 := ⟨t - 1, by omega⟩
    have h1 := hi.1
    have h2 := hi.2.1
    obtain rfl : u = n := by omega
    obtain rfl : v = u := by omega
    refine ⟨M, k, nc, nw, ?_, ChE.refl q M, fun _ => rfl, hm, hi⟩
    show T_X0_add_13 N (L_X0_add_13 N t) _ _ _ _ _ _ _ = _
    unfold T_X0_add_13
    rw [gd_t (by rw [(ch_k hq).1]; rfl), hm.1.2.1, show (2 : Int32) * nI v = nI (2 * v) from nI_mul 2 v, if_pos (nI_le (by omega) (by omega))]
  | succ d ih =>
    intro t u v k nc nw M hd ht hm hi
    obtain ⟨t, rfl⟩ : ∃ k, t = k + 1 := ⟨t - 1, by omega⟩
    have hi' := hi
    obtain ⟨i1, i2, i3, i4, i5, i6, i7, i8, i9⟩ := hi
    have hm' := hm
    obtain ⟨⟨s1, s2, s3, s4⟩, s5, s6, s7⟩ := hm
    obtain ⟨r0, r1, r3, r4, ne0, ne1⟩ := ch_r s1
    have kq : (kd q == 0) = true := by rw [(ch_k hq).1]; rfl
    have hnw : ∀ i, i < k → nw i < 2 ^ 31 := fun i hi => by
      rcases i6 i hi with ⟨x, hx, p1, p2⟩ | ⟨y, hy, p1, p2⟩
      · have := hcb x (by omega)
        omega
      · have := hcb y (by omega)
        omega
    have h59 : u < n → (v < n → c u ≤ c v + a) → ∃ M' k' nc' nw', B_X0_add_59 N (L_X0_add_13 N t) q (nI a) (nI b) (nI u) (nI v) (nI (u + v)) M = some (q, M') ∧ ChE q M M' ∧ (∀ j, gR M' q j = gR M q j) ∧ MgS M' q c w n k' nc' nw' ∧ MI c w n a b n n k' nc' nw' := by
      intro hu hv
      obtain ⟨m1, m2⟩ := hi'.u hu hv hc
      obtain ⟨M1, a1, a2, a3, a4⟩ := c_keep N hq (x := c u) (y := w u) hm' (by omega) (by have := hcb u hu; omega) hnw
      have st : B_X0_add_59 N (L_X0_add_13 N t) q (nI a) (nI b) (nI u) (nI v) (nI (u + v)) M = L_X0_add_13 N t q (nI a) (nI b) (nI (u + 1)) (nI v) (nI (u + 1 + v)) M1 := by
        unfold B_X0_add_59
        rw [gd_t kq, gd_t (ch_ok hq (by omega) (by omega)), gd_t (ch_ok hq (by omega) (by omega)), nI_clamp (by omega), s3 u hu, s4 u hu, b1_of a1, nI_1, nI_1, show u + v + 1 = u + 1 + v by omega]
      rw [st]
      have fin : ∀ k1 nc1 nw1, MgS M1 q c w n k1 nc1 nw1 → MI c w n a b (u + 1) v k1 nc1 nw1 → ∃ M' k' nc' nw', L_X0_add_13 N t q (nI a) (nI b) (nI (u + 1)) (nI v) (nI (u + 1 + v)) M1 = some (q, M') ∧ ChE q M M' ∧ (∀ j, gR M' q j = gR M q j) ∧ MgS M' q c w n k' nc' nw' ∧ MI c w n a b n n k' nc' nw' := by
        intro k1 nc1 nw1 x1 x2
        obtain ⟨M', k', nc', nw', y1, y2, y3, y4, y5⟩ := ih t (u + 1) v k1 nc1 nw1 M1 (by omega) (by omega) x1 x2
        exact ⟨M', k', nc', nw', y1, a2.trans y2, fun j => (y3 j).trans (a3 j), y4, y5⟩
      cases hk : kpq k nw (w u)
      · rw [hk, if_neg (by decide)] at a4
        exact fin _ _ _ a4 (m2 hk)
      · rw [hk, if_pos rfl] at a4
        exact fin _ _ _ a4 (m1 hk)
    have h81 : v < n → (u < n → c v + a ≤ c u) → ∃ M' k' nc' nw', B_X0_add_81 N (L_X0_add_13 N t) q (nI a) (nI b) (nI u) (nI v) (nI (u + v)) M = some (q, M') ∧ ChE q M M' ∧ (∀ j, gR M' q j = gR M q j) ∧ MgS M' q c w n k' nc' nw' ∧ MI c w n a b n n k' nc' nw' := by
      intro hv hu
      obtain ⟨m1, m2⟩ := hi'.v hv hu hc
      obtain ⟨M1, a1, a2, a3, a4⟩ := c_keep N hq (x := c v + a) (y := w v + b) hm' (by omega) (by have := hcb v hv; omega) hnw
      have st : B_X0_add_81 N (L_X0_add_13 N t) q (nI a) (nI b) (nI u) (nI v) (nI (u + v)) M = L_X0_add_13 N t q (nI a) (nI b) (nI u) (nI (v + 1)) (nI (u + (v + 1))) M1 := by
        unfold B_X0_add_81
        rw [gd_t kq, gd_t (ch_ok hq (by omega) (by omega)), gd_t (ch_ok hq (by omega) (by omega)), nI_clamp (by omega), s3 v hv, s4 v hv, nI_add, nI_add, b1_of a1, nI_1, nI_1, show u + v + 1 = u + (v + 1) by omega]
      rw [st]
      have fin : ∀ k1 nc1 nw1, MgS M1 q c w n k1 nc1 nw1 → MI c w n a b u (v + 1) k1 nc1 nw1 → ∃ M' k' nc' nw', L_X0_add_13 N t q (nI a) (nI b) (nI u) (nI (v + 1)) (nI (u + (v + 1))) M1 = some (q, M') ∧ ChE q M M' ∧ (∀ j, gR M' q j = gR M q j) ∧ MgS M' q c w n k' nc' nw' ∧ MI c w n a b n n k' nc' nw' := by
        intro k1 nc1 nw1 x1 x2
        obtain ⟨M', k', nc', nw', y1, y2, y3, y4, y5⟩ := ih t u (v + 1) k1 nc1 nw1 M1 (by omega) (by omega) x1 x2
        exact ⟨M', k', nc', nw', y1, a2.trans y2, fun j => (y3 j).trans (a3 j), y4, y5⟩
      cases hk : kpq k nw (w v + b)
      · rw [hk, if_neg (by decide)] at a4
        exact fin _ _ _ a4 (m2 hk)
      · rw [hk, if_pos rfl] at a4
        exact fin _ _ _ a4 (m1 hk)
    show ∃ M' k' nc' nw', T_X0_add_13 N (L_X0_add_13 N t) _ _ _ _ _ _ _ = _ ∧ _
    unfold T_X0_add_13
    rw [gd_t kq, s2, show (2 : Int32) * nI n = nI (2 * n) from nI_mul 2 n, if_neg (nI_ge (by omega) (by omega))]
    by_cases hv : v < n
    · rw [if_neg (nI_ge hv (by omega))]
      by_cases hu : u < n
      · rw [if_neg (nI_ge hu (by omega)), gd_t (ch_ok hq (by omega) (by omega)), gd_t (ch_ok hq (by omega) (by omega)), nI_clamp (by omega), nI_clamp (by omega), s3 u hu, s3 v hv, nI_add]
        have b1 := hcb u hu
        have b2 := hcb v hv
        by_cases hl : c v + a < c u
        · rw [if_pos (nI_lt hl (by omega))]
          exact h81 hv (fun _ => by omega)
        · rw [if_neg (nI_nlt (by omega) (by omega))]
          exact h59 hu (fun _ => by omega)
      · rw [if_pos (nI_le (by omega) (by omega))]
        exact h81 hv (fun hh => absurd hh hu)
    · rw [if_pos (nI_le (by omega) (by omega))]
      exact h59 (by omega) (fun hh => absurd hh hv)
theorem c_add {N : Nat} (hN : 300 < N) {q : Nat} (hq : isC q) {M : Mem} {c w : Nat → Nat} {n a b : Nat} {l : List (Nat × Nat)} (h : ChS M q c w n) (hp : Par c w n l) (hn : n ≤ 128) (hcb : ∀ i, i < n → c i ≤ 80000 ∧ w i ≤ 40000000) (ha : a ≤ 10000) (hb : b ≤ 5000000) :
    ∃ M' n' c' w', f_X0_add N q (nI a) (nI b) M = some M' ∧ ChE q M M' ∧ ChS M' q c' w' n' ∧ Par c' w' n' ((a, b) :: l) ∧ n' ≤ 2 * n := by
  have kq : (kd q == 0) = true := by rw [(ch_k hq).1]; rfl
  have u0 : ChE q M (sI M q 5 0) := ChE.sI q _ (by omega)
  obtain ⟨s1, s2, s3, s4⟩ := h
  obtain ⟨r0, r1, r3, r4, ne0, ne1⟩ := ch_r s1
  have hm0 : MgS (sI M q 5 0) q c w n 0 c w := ⟨⟨s1, by rw [gI_sI, if_neg (by omega)]; exact s2, fun i hi => by change gI _ (gR M q 0) i = _; rw [sI_ne _ _ (by omega)]; exact s3 i hi, fun i hi => by change gI _ (gR M q 1) i = _; rw [sI_ne _ _ (by omega)]; exact s4 i hi⟩, by rw [gI_sI, if_pos ⟨rfl, rfl⟩]; rfl, fun i hi => by omega, fun i hi => by omega⟩
  obtain ⟨M1, k', nc', nw', a1, a2, a3, a4, a5⟩ := c_merge (N := N) hq hn hcb ha hb (fun i j hij hj => (hp.2.1 i j hij hj).1) (2 * n) N 0 0 0 c w (sI M q 5 0) (by omega) (by omega) hm0 (MI.start c w n a b c w)
  obtain ⟨⟨t1, t2, t3, t4⟩, t5, t6, t7⟩ := a4
  have hk2 : k' ≤ 2 * n := by have := a5.2.2.1; omega
  have hpar := a5.done hp
  have er : ∀ j, gR M1 q j = gR M q j := a3
  refine ⟨sI (sR (sR (sR (sR M1 q 0 (gR M1 q 3)) q 1 (gR M1 q 4)) q 3 (gR M1 q 0)) q 4 (gR M1 q 1)) q 2 (nI k'), k', nc', nw', ?_, ?_, ?_, hpar, hk2⟩
  · unfold f_X0_add
    rw [gd_t kq, wr_eq, l2_of (show L_X0_add_13 N N q (nI a) (nI b) 0 0 0 (sI M q 5 0) = _ from a1), gd_t kq]
    unfold f_X0_swap
    rw [gd_t kq, wr_eq, wr_eq, wr_eq, wr_eq, wr_eq]
    have e4 : gR (sR M1 q 0 (gR M1 q 3)) q 4 = gR M1 q 4 := by rw [gR_sR, if_neg (by omega)]
    have e5 : gI (sR (sR (sR (sR M1 q 0 (gR M1 q 3)) q 1 (gR (sR M1 q 0 (gR M1 q 3)) q 4)) q 3 (gR M1 q 0)) q 4 (gR M1 q 1)) q 5 = nI k' := t5
    rw [e5, e4]
    rfl
  · have v1 : ChE q M1 (sI (sR (sR (sR (sR M1 q 0 (gR M1 q 3)) q 1 (gR M1 q 4)) q 3 (gR M1 q 0)) q 4 (gR M1 q 1)) q 2 (nI k')) := by
      refine ⟨fun k hk => ?_, fun k j hk => ?_, fun _ _ => rfl, fun _ _ => rfl⟩
      · rw [sI_ne _ _ (by omega)]
        rfl
      · rw [gR_sI, gR_sR, if_neg (by omega), gR_sR, if_neg (by omega), gR_sR, if_neg (by omega), gR_sR, if_neg (by omega)]
    exact (u0.trans a2).trans v1
  · have g0 : gR (sI (sR (sR (sR (sR M1 q 0 (gR M1 q 3)) q 1 (gR M1 q 4)) q 3 (gR M1 q 0)) q 4 (gR M1 q 1)) q 2 (nI k')) q 0 = gR M1 q 3 := by
      rw [gR_sI, gR_sR, if_neg (by omega), gR_sR, if_neg (by omega), gR_sR, if_neg (by omega), gR_sR, if_pos ⟨rfl, rfl⟩]
    have g1 : gR (sI (sR (sR (sR (sR M1 q 0 (gR M1 q 3)) q 1 (gR M1 q 4)) q 3 (gR M1 q 0)) q 4 (gR M1 q 1)) q 2 (nI k')) q 1 = gR M1 q 4 := by
      rw [gR_sI, gR_sR, if_neg (by omega), gR_sR, if_neg (by omega), gR_sR, if_pos ⟨rfl, rfl⟩]
    have g3 : gR (sI (sR (sR (sR (sR M1 q 0 (gR M1 q 3)) q 1 (gR M1 q 4)) q 3 (gR M1 q 0)) q 4 (gR M1 q 1)) q 2 (nI k')) q 3 = gR M1 q 0 := by
      rw [gR_sI, gR_sR, if_neg (by omega), gR_sR, if_pos ⟨rfl, rfl⟩]
    have g4 : gR (sI (sR (sR (sR (sR M1 q 0 (gR M1 q 3)) q 1 (gR M1 q 4)) q 3 (gR M1 q 0)) q 4 (gR M1 q 1)) q 2 (nI k')) q 4 = gR M1 q 1 := by
      rw [gR_sI, gR_sR, if_pos ⟨rfl, rfl⟩]
    have hne := ch_r t1
    refine ⟨?_, by rw [gI_sI, if_pos ⟨rfl, rfl⟩], fun i hi => ?_, fun i hi => ?_⟩
    · unfold ChAt
      rw [g0, g1, g3, g4]
      rcases t1 with ⟨x1, x2, x3, x4⟩ | ⟨x1, x2, x3, x4⟩
      · exact Or.inr ⟨x3, x4, x1, x2⟩
      · exact Or.inl ⟨x3, x4, x1, x2⟩
    · rw [g0, sI_ne _ _ (by omega)]
      exact t6 i hi
    · rw [g1, sI_ne _ _ (by omega)]
      exact t7 i hi
