/-! BESTSUM -/
def KE (m M : Mem) : Prop := (∀ k, ¬ (60 ≤ k ∧ k ≤ 70) → gI M k = gI m k) ∧ (∀ k j, ¬ (60 ≤ k ∧ k ≤ 70) → gR M k j = gR m k j) ∧ (∀ k j, gJ M k j = gJ m k j) ∧ (∀ k j, gD M k j = gD m k j)
theorem KE.refl (m : Mem) : KE m m := ⟨fun _ _ => rfl, fun _ _ _ => rfl, fun _ _ => rfl, fun _ _ => rfl⟩
theorem KE.trans {a b c : Mem} (h : KE a b) (h' : KE b c) : KE a c := ⟨fun k hk => (h'.1 k hk).trans (h.1 k hk), fun k j hk => (h'.2.1 k j hk).trans (h.2.1 k j hk), fun k j => (h'.2.2.1 k j).trans (h.2.2.1 k j), fun k j => (h'.2.2.2 k j).trans (h.2.2.2 k j)⟩
theorem ChE.ke {q : Nat} (hq : isC q) {m M : Mem} (h : ChE q m M) : KE m M := ⟨fun k hk => h.1 k (by unfold isC at hq; omega), fun k j hk => h.2.1 k j (by unfold isC at hq; omega), h.2.2.1, h.2.2.2⟩
theorem KE.sI (m : Mem) {k j : Nat} {v : Int32} (hk : 60 ≤ k ∧ k ≤ 70) : KE m (sI m k j v) := ⟨fun k' hk' => sI_ne _ _ (by omega), fun _ _ _ => rfl, fun _ _ => rfl, fun _ _ => rfl⟩
theorem KE.core {m M : Mem} (h : KE m M) (hc : ChOK M) : Core m M :=
  ⟨fun k hk => h.1 k (by omega), fun j _ => by rw [h.1 1 (by omega)], fun j _ => by rw [h.1 95 (by omega)], h.2.1 0 7 (by omega), h.2.1 0 8 (by omega), fun _ => hc⟩
theorem KE.v {m M : Mem} (h : KE m M) : SV m M := ⟨h.1 96 (by omega), h.1 98 (by omega)⟩
def bnd (l : List (Nat × Nat)) : Prop := ∀ x, x ∈ l → x.1 ≤ 10000 ∧ x.2 ≤ 5000000
def KS (M : Mem) (l1 l2 : List (Nat × Nat)) (oc : Nat) (c1 w1 : Nat → Nat) (n1 : Nat) (c2 w2 : Nat → Nat) (n2 : Nat) : Prop :=
  ChS M 61 c1 w1 n1 ∧ Par c1 w1 n1 l1 ∧ n1 ≤ 2 ^ l1.length ∧ ChS M 66 c2 w2 n2 ∧ Par c2 w2 n2 l2 ∧ n2 ≤ 2 ^ l2.length ∧ gI M 60 2 = nI oc ∧ l1.length = (oc + 1) / 2 ∧ l2.length = oc / 2 ∧ bnd l1 ∧ bnd l2
theorem ChS.keep {q : Nat} {m M : Mem} {c w : Nat → Nat} {n : Nat} (h : ChS m q c w n) (e : ∀ k, q ≤ k → k ≤ q + 4 → gI M k = gI m k) (er : ∀ j, gR M q j = gR m q j) : ChS M q c w n := by
  obtain ⟨h1, h2, h3, h4⟩ := h
  obtain ⟨r0, r1, _⟩ := ch_r h1
  refine ⟨?_, by rw [e q (by omega) (by omega)]; exact h2, fun i hi => ?_, fun i hi => ?_⟩
  · unfold ChAt at *
    simp only [er]
    exact h1
  · rw [er, e _ (by omega) (by omega)]
    exact h3 i hi
  · rw [er, e _ (by omega) (by omega)]
    exact h4 i hi
theorem Par.bd {c w : Nat → Nat} {n : Nat} {l : List (Nat × Nat)} (h : Par c w n l) (hb : bnd l) (hl : l.length ≤ 8) : ∀ i, i < n → c i ≤ 80000 ∧ w i ≤ 40000000 := by
  intro i hi
  have := At.len l _ _ hb (h.2.2.1 i hi)
  omega
theorem c_clear {N : Nat} {q : Nat} (hq : isC q) {M : Mem} (h : ChAt M q) : ∃ M', f_X0_clear N q M = some M' ∧ ChE q M M' ∧ (∀ j, gR M' q j = gR M q j) ∧ ChS M' q (fun _ => 0) (fun _ => 0) 1 := by
  obtain ⟨r0, r1, r3, r4, ne0, ne1⟩ := ch_r h
  refine ⟨sI (sI (sI M (gR M q 0) 0 0) (gR M q 1) 0 0) q 2 1, ?_, ((ChE.sI q _ (by omega)).trans (ChE.sI q _ (by omega))).trans (ChE.sI q _ (by omega)), fun _ => rfl, h, by rw [gI_sI, if_pos ⟨rfl, rfl⟩]; rfl, fun i hi => ?_, fun i hi => ?_⟩
  · unfold f_X0_clear
    rw [gd_t (by rw [(ch_k hq).1]; rfl), gd_t (show okA 12 (gR M q 0) 0 = true from ch_ok hq (j := 0) (by omega) (by omega)), wr_eq, show gR (sI M (gR M q 0) 0 0) q 1 = gR M q 1 from rfl, gd_t (show okA 12 (gR M q 1) 0 = true from ch_ok hq (j := 0) (by omega) (by omega)), wr_eq, wr_eq]
  · obtain rfl : i = 0 := by omega
    change gI _ (gR M q 0) 0 = _
    rw [gI_sI, if_neg (by omega), gI_sI, if_neg (by omega), gI_sI, if_pos ⟨rfl, rfl⟩]
    rfl
  · obtain rfl : i = 0 := by omega
    change gI _ (gR M q 1) 0 = _
    rw [gI_sI, if_neg (by omega), gI_sI, if_pos ⟨rfl, rfl⟩]
    rfl
def spl (l l1 l2 : List (Nat × Nat)) : Prop := ∀ c w, At l c w ↔ ∃ c1 w1 c2 w2, At l1 c1 w1 ∧ At l2 c2 w2 ∧ c = c1 + c2 ∧ w = w1 + w2
theorem c_offer {N : Nat} (hN : 300 < N) {M : Mem} {l l1 l2 : List (Nat × Nat)} {oc a b : Nat} {c1 w1 c2 w2 : Nat → Nat} {n1 n2 : Nat} (h : KS M l1 l2 oc c1 w1 n1 c2 w2 n2) (ho : oc ≤ 15) (ha : a ≤ 10000) (hb : b ≤ 5000000) (hs : spl l l1 l2) :
    ∃ M' l1' l2' c1' w1' n1' c2' w2' n2', f_X3_offer N (nI a) (nI b) M = some M' ∧ KE M M' ∧ KS M' l1' l2' (oc + 1) c1' w1' n1' c2' w2' n2' ∧ spl ((a, b) :: l) l1' l2' := by
  obtain ⟨k1, k2, k3, k4, k5, k6, k7, k8, k9, k10, k11⟩ := h
  have hand : (nI oc &&& (1 : Int32)) = nI (oc % 2) := by
    rw [show (1 : Int32) = nI 1 from rfl, nx_and, Nat.and_one_is_mod]
  unfold f_X3_offer B_X3_offer_30
  rw [k7, hand]
  have hp7 : ∀ x, x ≤ 7 → 2 ^ x ≤ 128 := fun x hx => Nat.pow_le_pow_right (n := 2) (by omega) hx
  by_cases he : oc % 2 = 0
  · rw [he, if_pos (by decide)]
    have hl1 : l1.length ≤ 7 := by omega
    obtain ⟨M', n', c', w', a1, a2, a3, a4, a5⟩ := c_add hN (Or.inl rfl) (a := a) (b := b) k1 k2 (Nat.le_trans k3 (hp7 _ hl1)) (k2.bd k10 (by omega)) ha hb
    have u : KE M' (sI M' 60 2 (nI (oc + 1))) := KE.sI _ (by omega)
    refine ⟨sI M' 60 2 (nI (oc + 1)), (a, b) :: l1, l2, c', w', n', c2, w2, n2, ?_, (a2.ke (Or.inl rfl)).trans u, ⟨?_, a4, ?_, ?_, k5, k6, by rw [gI_sI, if_pos ⟨rfl, rfl⟩], by rw [List.length_cons]; omega, by omega, ?_, k11⟩, (At.split hs).1⟩
    · rw [b1_of a1, wr_eq, a2.1 60 (by omega), k7, nI_1]
    · exact a3.keep (fun k _ _ => sI_ne _ _ (by omega)) (fun _ => rfl)
    · rw [List.length_cons, Nat.pow_succ]
      omega
    · exact k4.keep (fun k _ _ => by rw [sI_ne _ _ (by omega)]; exact a2.1 k (by omega)) (fun j => a2.2.1 66 j (by omega))
    · intro x hx
      rcases List.mem_cons.mp hx with rfl | hx
      · exact ⟨ha, hb⟩
      · exact k10 x hx
  · rw [show oc % 2 = 1 by omega, if_neg (by decide)]
    have hl2 : l2.length ≤ 7 := by omega
    obtain ⟨M', n', c', w', a1, a2, a3, a4, a5⟩ := c_add hN (Or.inr rfl) (a := a) (b := b) k4 k5 (Nat.le_trans k6 (hp7 _ hl2)) (k5.bd k11 (by omega)) ha hb
    have u : KE M' (sI M' 60 2 (nI (oc + 1))) := KE.sI _ (by omega)
    refine ⟨sI M' 60 2 (nI (oc + 1)), l1, (a, b) :: l2, c1, w1, n1, c', w', n', ?_, (a2.ke (Or.inr rfl)).trans u, ⟨?_, k2, k3, ?_, a4, ?_, by rw [gI_sI, if_pos ⟨rfl, rfl⟩], by omega, by rw [List.length_cons]; omega, k10, ?_⟩, (At.split hs).2⟩
    · rw [b1_of a1, wr_eq, a2.1 60 (by omega), k7, nI_1]
    · exact k1.keep (fun k _ _ => by rw [sI_ne _ _ (by omega)]; exact a2.1 k (by omega)) (fun j => a2.2.1 61 j (by omega))
    · exact a3.keep (fun k _ _ => sI_ne _ _ (by omega)) (fun _ => rfl)
    · rw [List.length_cons, Nat.pow_succ]
      omega
    · intro x hx
      rcases List.mem_cons.mp hx with rfl | hx
      · exact ⟨ha, hb⟩
      · exact k11 x hx
theorem KS.ch {M : Mem} {l1 l2 : List (Nat × Nat)} {oc : Nat} {c1 w1 c2 w2 : Nat → Nat} {n1 n2 : Nat} (h : KS M l1 l2 oc c1 w1 n1 c2 w2 n2) : ChOK M := ⟨h.1.1, h.2.2.2.1.1⟩
/-- what the walk over the order offers -/
def mayK (t nr : Nat → Int32) (o : Nat → Nat) (pa line : Int32) (k : Nat) : Bool := decide (t (59 + 5 * o k) = pa) && decide (¬ nr (o k) < line)
def askK (t : Nat → Int32) (o : Nat → Nat) (k : Nat) : Nat := vN (t (62 + 5 * o k))
def woK (nr : Nat → Int32) (o : Nat → Nat) (k : Nat) : Nat := vN (nr (o k))
theorem ordC.ke {M X : Mem} {nr : Nat → Int32} {o : Nat → Nat} {c : Nat} (h : ordC M nr o c) (e : KE M X) : ordC X nr o c := by
  unfold ordC at *
  rw [e.1 38 (by omega), e.1 47 (by omega), e.1 43 (by omega), e.v.q]
  exact h
theorem c_walkB {N : Nat} (hN : 300 < N) {nr : Nat → Int32} {o : Nat → Nat} {c : Nat} (pa line : Int32) (hl0 : 0 ≤ line.toInt) (hnb : ∀ k, k < c → (nr (o k)).toInt ≤ 4500000) : ∀ d n i M l1 l2 oc c1 w1 n1 c2 w2 n2, Rel M → ordC M nr o c → gI M 3 3 = line → i + d = c → d < n → oc ≤ i → KS M l1 l2 oc c1 w1 n1 c2 w2 n2 → spl (ofr (mayK (gI M 96) nr o pa line) (askK (gI M 96) o) (woK nr o) i) l1 l2 →
    ∃ M' l1' l2' oc' c1' w1' n1' c2' w2' n2', L_X9_bestSum_29 N n pa (nI i) M = some (pa, M') ∧ KE M M' ∧ KS M' l1' l2' oc' c1' w1' n1' c2' w2' n2' ∧ oc' ≤ c ∧ spl (ofr (mayK (gI M 96) nr o pa line) (askK (gI M 96) o) (woK nr o) c) l1' l2' := by
  intro d
  induction d with
  | zero =>
    intro n i M l1 l2 oc c1 w1 n1 c2 w2 n2 h ho hli hi hn hoc hk hs
    obtain ⟨n, rfl⟩ : ∃ k, n = k + 1 := ⟨n - 1, by omega⟩
    have hc := ho.2.1
    obtain rfl : i = c := by omega
    refine ⟨M, l1, l2, oc, c1, w1, n1, c2, w2, n2, ?_, KE.refl M, hk, hoc, hs⟩
    show T_X9_bestSum_29 N (L_X9_bestSum_29 N n) _ _ _ = _
    unfold T_X9_bestSum_29
    rw [ho.1, if_pos (nI_le (by omega) (by omega))]
  | succ d ih =>
    intro n i M l1 l2 oc c1 w1 n1 c2 w2 n2 h ho hli hi hn hoc hk hs
    obtain ⟨n, rfl⟩ : ∃ k, n = k + 1 := ⟨n - 1, by omega⟩
    have hc := ho.2.1
    have hQ := h.b.Q.2
    obtain ⟨o1, o2, o3⟩ := ho.2.2 i (by omega)
    obtain ⟨ak1, ak2, ak3⟩ := h.b.asks o2
    have e12 : gI M (gR M 0 7 + (12 - 2)) (o i) = gI M 96 (62 + 5 * o i) := (h.b.rowP o2).2.2.2.1
    have skip : mayK (gI M 96) nr o pa line i = false → ∃ M' l1' l2' oc' c1' w1' n1' c2' w2' n2', L_X9_bestSum_29 N n pa (nI (i + 1)) M = some (pa, M') ∧ KE M M' ∧ KS M' l1' l2' oc' c1' w1' n1' c2' w2' n2' ∧ oc' ≤ c ∧ spl (ofr (mayK (gI M 96) nr o pa line) (askK (gI M 96) o) (woK nr o) c) l1' l2' := by
      intro hm
      refine ih n (i + 1) M l1 l2 oc c1 w1 n1 c2 w2 n2 h ho hli (by omega) (by omega) (by omega) hk ?_
      unfold ofr
      rw [hm, if_neg (by decide)]
      exact hs
    show ∃ M' l1' l2' oc' c1' w1' n1' c2' w2' n2', T_X9_bestSum_29 N (L_X9_bestSum_29 N n) _ _ _ = _ ∧ _
    unfold T_X9_bestSum_29
    rw [ho.1, if_neg (nI_ge (by omega) (by omega)), gd_t (inb_nI (by omega) (by omega)), gd_t (st_k h.b.s), nI_clamp (by omega), o1, gd_t (st_ok h.b.s (by omega) (by omega) (show o i < 16 by omega)), st_rt h.b.s (by omega) (by omega), nI_clamp (by omega), show gI M (gR M 0 7 + (9 - 2)) (o i) = gI M 96 (59 + 5 * o i) from (h.b.rowP o2).1, nI_1]
    by_cases hpa : gI M 96 (59 + 5 * o i) = pa
    · rw [if_pos hpa, gd_t (inb_nI (by omega) (by omega)), o3, hli]
      by_cases hl : nr (o i) < line
      · rw [if_pos hl]
        exact skip (by unfold mayK; rw [decide_eq_false (show ¬ ¬ nr (o i) < line from fun hh => hh hl), Bool.and_false])
      · have hmay : mayK (gI M 96) nr o pa line i = true := by
          unfold mayK
          rw [decide_eq_true hpa, decide_eq_true hl]
          rfl
        have hge : 0 ≤ (nr (o i)).toInt := by
          rw [Int32.lt_iff_toInt_lt] at hl
          omega
        have hwb := hnb i (by omega)
        have hw : nr (o i) = nI (woK nr o i) := vN_eq hge
        have hwb' : woK nr o i ≤ 5000000 := by unfold woK vN; omega
        have hak : gI M 96 (62 + 5 * o i) = nI (askK (gI M 96) o i) := ak1
        have hakb : askK (gI M 96) o i ≤ 10000 := by unfold askK; omega
        obtain ⟨M1, l1', l2', c1', w1', n1', c2', w2', n2', a1, a2, a3, a4⟩ := c_offer hN (a := askK (gI M 96) o i) (b := woK nr o i) hk (by omega) hakb hwb' hs
        have h1 := h.core (a2.core a3.ch)
        rw [if_neg hl, gd_t (st_ok h.b.s (by omega) (by omega) (show o i < 16 by omega)), st_rt h.b.s (by omega) (by omega), e12, hak, hw, b1_of a1]
        obtain ⟨M', r1, r2, roc, rc1, rw1, rn1, rc2, rw2, rn2, b1, b2, b3, b4, b5⟩ := ih n (i + 1) M1 l1' l2' (oc + 1) c1' w1' n1' c2' w2' n2' h1 (ho.ke a2) (by rw [a2.1 3 (by omega)]; exact hli) (by omega) (by omega) (by omega) a3 (by
          rw [a2.v.1]
          unfold ofr
          rw [hmay, if_pos rfl]
          exact a4)
        rw [a2.v.1] at b5
        exact ⟨M', r1, r2, roc, rc1, rw1, rn1, rc2, rw2, rn2, b1, a2.trans b2, b3, b4, b5⟩
    · rw [if_neg hpa]
      exact skip (by unfold mayK; rw [decide_eq_false hpa, Bool.false_and])
theorem c_bestIn {N : Nat} {M : Mem} {l1 : List (Nat × Nat)} {c1 w1 c2 w2 : Nat → Nat} {n1 n2 bu i B : Nat} (h1 : ChS M 61 c1 w1 n1) (h2 : ChS M 66 c2 w2 n2) (p1 : Par c1 w1 n1 l1) (hn1 : n1 ≤ 256) (hn2 : n2 ≤ 256) (hb1 : ∀ i, i < n1 → c1 i ≤ 80000) (hb2 : ∀ i, i < n2 → c2 i ≤ 80000) (hbu : bu ≤ 100000) (hi : i < n1) : ∀ j n, j < n → TP c1 w1 n1 c2 w2 n2 bu i j B →
    ∃ j' : Nat, L_X3_best_27 N n (nI bu) (nI B) (zI ((j : Int) - 1)) (nI i) M = some (nI bu, nI B, zI ((j' : Int) - 1), nI i, M) ∧ TP c1 w1 n1 c2 w2 n2 bu i j' B ∧ (j' = 0 ∨ (1 ≤ j' ∧ c1 i + c2 (j' - 1) ≤ bu)) := by
  obtain ⟨r0, r1, _⟩ := ch_r h1.1
  obtain ⟨q0, q1, _⟩ := ch_r h2.1
  intro j
  induction j with
  | zero =>
    intro n hn ht
    obtain ⟨n, rfl⟩ : ∃ k, n = k + 1 := ⟨n - 1, by omega⟩
    refine ⟨0, ?_, ht, Or.inl rfl⟩
    show T_X3_best_27 N (L_X3_best_27 N n) _ _ _ _ _ = _
    unfold T_X3_best_27
    exact if_pos (by decide)
  | succ j ih =>
    intro n hn ht
    obtain ⟨n, rfl⟩ : ∃ k, n = k + 1 := ⟨n - 1, by omega⟩
    have hj : j < n2 := ht.2.2.2.1
    have ez : zI (((j + 1 : Nat) : Int) - 1) = nI j := by rw [show (((j + 1 : Nat) : Int) - 1) = (j : Int) by omega, zI_nI]
    have step : T_X3_best_27 N (L_X3_best_27 N n) (nI bu) (nI B) (zI (((j + 1 : Nat) : Int) - 1)) (nI i) M = if c1 i + c2 j ≤ bu then some (nI bu, nI B, zI (((j + 1 : Nat) : Int) - 1), nI i, M) else L_X3_best_27 N n (nI bu) (nI B) (zI ((j : Int) - 1)) (nI i) M := by
      unfold T_X3_best_27
      rw [ez, if_neg (nI_pos (by omega)), gd_t (ch_ok (Or.inl rfl) (by omega) (by omega)), gd_t (ch_ok (Or.inr rfl) (by omega) (by omega)), nI_clamp (by omega), nI_clamp (by omega), h1.2.2.1 i hi, h2.2.2.1 j hj, nI_add, show nI j + (-1 : Int32) = zI ((j : Int) - 1) by rw [← zI_nI, show (-1 : Int32) = zI (-1) from rfl, zI_add]; rfl]
      have := hb1 i hi
      have := hb2 j hj
      by_cases hl : c1 i + c2 j ≤ bu
      · rw [if_pos (nI_le hl (by omega)), if_pos hl]
      · rw [if_neg (nI_ge (by omega) (by omega)), if_neg hl]
    show ∃ j' : Nat, T_X3_best_27 N (L_X3_best_27 N n) _ _ _ _ _ = _ ∧ _
    rw [step]
    by_cases hl : c1 i + c2 j ≤ bu
    · rw [if_pos hl]
      exact ⟨j + 1, rfl, ht, Or.inr ⟨by omega, hl⟩⟩
    · rw [if_neg hl]
      exact ih n (by omega) (ht.down p1 (by omega))
theorem c_bestOut {N : Nat} (hN : 300 < N) {M : Mem} {l1 l2 l : List (Nat × Nat)} {c1 w1 c2 w2 : Nat → Nat} {n1 n2 bu : Nat} (h1 : ChS M 61 c1 w1 n1) (h2 : ChS M 66 c2 w2 n2) (p1 : Par c1 w1 n1 l1) (p2 : Par c2 w2 n2 l2) (hn1 : n1 ≤ 256) (hn2 : n2 ≤ 256) (hb1 : ∀ i, i < n1 → c1 i ≤ 80000 ∧ w1 i ≤ 40000000) (hb2 : ∀ i, i < n2 → c2 i ≤ 80000 ∧ w2 i ≤ 40000000) (hbu : bu ≤ 100000) (hl : spl l l1 l2) : ∀ d n i j B, i + d = n1 → d < n → TP c1 w1 n1 c2 w2 n2 bu i j B →
    ∃ B', (L_X3_best_15 N n (nI bu) (nI B) (zI ((j : Int) - 1)) (nI i) M).bind (fun x9 => match x9 with | .inl ((v2_10, m_10)) => some (v2_10, m_10) | .inr ((v2_10, m_10)) => some (v2_10, m_10)) = some (nI B', M) ∧ Opt l bu B' := by
  obtain ⟨r0, r1, _⟩ := ch_r h1.1
  obtain ⟨q0, q1, _⟩ := ch_r h2.1
  intro d
  induction d with
  | zero =>
    intro n i j B hi hn ht
    obtain ⟨n, rfl⟩ : ∃ k, n = k + 1 := ⟨n - 1, by omega⟩
    refine ⟨B, ?_, ht.done p1 p2 (Or.inl (by omega)) hl⟩
    show (T_X3_best_15 N (L_X3_best_15 N n) _ _ _ _ _).bind _ = _
    unfold T_X3_best_15
    rw [h1.2.1, if_pos (nI_le (by omega) (by omega))]
    rfl
  | succ d ih =>
    intro n i j B hi hn ht
    obtain ⟨n, rfl⟩ : ∃ k, n = k + 1 := ⟨n - 1, by omega⟩
    have hin : i < n1 := by omega
    have hj : j ≤ n2 := ht.2.2.2.1
    have hB : B ≤ 80000000 := by
      rcases ht.1 with rfl | ⟨x, y, a1, a2, a3, a4⟩
      · omega
      · have := hb1 x (by omega)
        have := hb2 y a2
        omega
    obtain ⟨j', a1, a2, a3⟩ := c_bestIn (N := N) h1 h2 p1 hn1 hn2 (fun i hi => (hb1 i hi).1) (fun i hi => (hb2 i hi).1) hbu hin j N (by omega) ht
    show ∃ B', (T_X3_best_15 N (L_X3_best_15 N n) _ _ _ _ _).bind _ = _ ∧ _
    unfold T_X3_best_15 B_X3_best_61
    rw [h1.2.1, if_neg (nI_ge hin (by omega)), l5_of a1]
    rcases a3 with rfl | ⟨b1, b2⟩
    · rw [if_neg (by decide)]
      exact ⟨B, rfl, a2.done p1 p2 (Or.inr rfl) hl⟩
    · obtain ⟨k, rfl⟩ : ∃ k, j' = k + 1 := ⟨j' - 1, by omega⟩
      have hk : k < n2 := a2.2.2.2.1
      have ez : zI (((k + 1 : Nat) : Int) - 1) = nI k := by rw [show (((k + 1 : Nat) : Int) - 1) = (k : Int) by omega, zI_nI]
      have x1 := hb1 i hin
      have x2 := hb2 k hk
      obtain ⟨B', y1, y2⟩ := ih n (i + 1) (k + 1) _ (by omega) (by omega) (a2.up p2 hin b2)
      refine ⟨B', ?_, y2⟩
      rw [ez, if_pos (show (0 : Int32) ≤ nI k from nI_le (a := 0) (by omega) (by omega)), gd_t (ch_ok (Or.inl rfl) (by omega) (by omega)), gd_t (ch_ok (Or.inr rfl) (by omega) (by omega)), nI_clamp (by omega), nI_clamp (by omega), h1.2.2.2 i hin, h2.2.2.2 k hk, nI_add, nI_1]
      rw [ez] at y1
      by_cases hlt : B < w1 i + w2 k
      · rw [if_pos hlt] at y1
        rw [if_pos (nI_lt hlt (by omega))]
        exact y1
      · rw [if_neg hlt] at y1
        rw [if_neg (nI_nlt (by omega) (by omega))]
        exact y1
theorem mv_b {may : Nat → Bool} {ask wo : Nat → Nat} {bu S : Nat} (ha : ∀ k, k < 16 → may k = true → ask k ≤ 10000 ∧ wo k ≤ 5000000) : ∀ k, k ≤ 16 → (mv may ask wo bu S k).1 ≤ bu + 10001 ∧ (mv may ask wo bu S k).2 ≤ 5000000 * k
  | 0, _ => ⟨Nat.zero_le _, Nat.zero_le _⟩
  | k + 1, hk => by
    have ih := mv_b (bu := bu) (S := S) ha k (by omega)
    rw [mv_s, Nat.mul_succ]
    split
    · omega
    · split
      · split
        · have := ha k (by omega) (by assumption)
          dsimp only
          omega
        · dsimp only
          omega
      · omega
theorem mv_st {may : Nat → Bool} {ask wo : Nat → Nat} {bu S k : Nat} (h : bu < (mv may ask wo bu S k).1) : ∀ d, mv may ask wo bu S (k + d) = mv may ask wo bu S k
  | 0 => rfl
  | d + 1 => by
    have ih := mv_st h d
    show mv may ask wo bu S ((k + d) + 1) = _
    rw [mv_s, ih, if_pos h]
theorem m_setIn {N : Nat} {nr : Nat → Int32} {o : Nat → Nat} {c p bu S : Nat} {line : Int32} {Y : Mem} (h : Rel Y) (ho : ordM Y nr o c) (hp : p < nP Y) (hbu : gI Y 96 (7 + p) = nI bu) (hbub : bu ≤ 100000) (hli : gI Y 98 0 = line) (hl0 : 0 ≤ line.toInt) (hnb : ∀ k, k < c → (nr (o k)).toInt ≤ 4500000) (b : Int32) : ∀ d n k, k + d = c → d < n →
    L_X10_bestSum_53 N n (nI p) b (nI S) (nI (mv (mayK (gI Y 96) nr o (nI p) line) (askK (gI Y 96) o) (woK nr o) bu S k).1) (nI (mv (mayK (gI Y 96) nr o (nI p) line) (askK (gI Y 96) o) (woK nr o) bu S k).2) (nI k) Y = some (nI p, b, nI S, nI (mv (mayK (gI Y 96) nr o (nI p) line) (askK (gI Y 96) o) (woK nr o) bu S c).1, nI (mv (mayK (gI Y 96) nr o (nI p) line) (askK (gI Y 96) o) (woK nr o) bu S c).2, Y) := by
  have hc := ho.2.1
  have hP := h.b.P.2
  have hQ := h.b.Q.2
  have hab : ∀ k, k < c → mayK (gI Y 96) nr o (nI p) line k = true → askK (gI Y 96) o k ≤ 10000 ∧ woK nr o k ≤ 5000000 := by
    intro k hk _
    have := (h.b.asks (ho.2.2 k hk).2.1).2
    have := hnb k hk
    unfold askK woK
    refine ⟨by omega, by unfold vN; omega⟩
  have hmvb : ∀ k, k ≤ c → (mv (mayK (gI Y 96) nr o (nI p) line) (askK (gI Y 96) o) (woK nr o) bu S k).1 ≤ bu + 10001 ∧ (mv (mayK (gI Y 96) nr o (nI p) line) (askK (gI Y 96) o) (woK nr o) bu S k).2 ≤ 5000000 * k := by
    intro k
    induction k with
    | zero => exact fun _ => ⟨Nat.zero_le _, Nat.zero_le _⟩
    | succ k ih =>
      intro hk
      have ih := ih (by omega)
      rw [mv_s, Nat.mul_succ]
      split
      · omega
      · split
        · split
          · have := hab k (by omega) (by assumption)
            dsimp only
            omega
          · dsimp only
            omega
        · omega
  intro d
  induction d with
  | zero =>
    intro n k hk hn
    obtain ⟨n, rfl⟩ : ∃ k, n = k + 1 := ⟨n - 1, by omega⟩
    obtain rfl : k = c := by omega
    show T_X10_bestSum_53 N (L_X10_bestSum_53 N n) _ _ _ _ _ _ _ = _
    unfold T_X10_bestSum_53
    rw [ho.1, if_pos (nI_le (by omega) (by omega))]
  | succ d ih =>
    intro n k hk hn
    obtain ⟨n, rfl⟩ : ∃ k, n = k + 1 := ⟨n - 1, by omega⟩
    have hkc : k < c := by omega
    have ihn := ih n (k + 1) (by omega) (by omega)
    rw [mv_s] at ihn
    have hb := hmvb k (by omega)
    have hst := fun hh => mv_st (may := mayK (gI Y 96) nr o (nI p) line) (ask := askK (gI Y 96) o) (wo := woK nr o) (bu := bu) (S := S) (k := k) hh (d + 1)
    rw [show k + (d + 1) = c by omega] at hst
    obtain ⟨o1, o2, o3⟩ := ho.2.2 k hkc
    obtain ⟨ak1, ak2, ak3⟩ := h.b.asks o2
    have hab1 := hab k hkc
    generalize hmv : mv (mayK (gI Y 96) nr o (nI p) line) (askK (gI Y 96) o) (woK nr o) bu S k = xs at *
    show T_X10_bestSum_53 N (L_X10_bestSum_53 N n) _ _ _ _ _ _ _ = _
    unfold T_X10_bestSum_53
    rw [ho.1, if_neg (nI_ge hkc (by omega)), show (7 : Int32) + nI p = nI (7 + p) from nI_add 7 p, gd_t (inb_nI (by omega) (by omega)), nI_clamp (by omega), hbu]
    by_cases hov : bu < xs.1
    · rw [if_pos (nI_lt hov (by omega)), hst hov]
    · rw [if_neg (nI_nlt (by omega) (by omega))]
      rw [if_neg hov] at ihn
      have hp0 : f_X10_proposal N (nI (o k)) 0 Y = some (gI Y 96 (59 + 5 * o k), Y) := m_proposal N (by omega) (show 0 < 5 by omega) Y
      have hp3 : f_X10_proposal N (nI (o k)) 3 Y = some (gI Y 96 (62 + 5 * o k), Y) := m_proposal N (by omega) (show 3 < 5 by omega) Y
      have hh := m_has N (k := S) (j := k) (by omega) Y
      have z : ∀ x : Nat, nI x + (0 : Int32) = nI x := fun x => nI_add x 0
      rw [gd_t (inb_nI (by omega) (by omega)), nI_clamp (by omega), o1, b2_of hp0]
      have key : ∀ (mb : Bool), mayK (gI Y 96) nr o (nI p) line k = mb → B_X10_bestSum_118 N (L_X10_bestSum_53 N n) (nI p) b (nI S) (nI xs.1) (nI xs.2) (nI k) (if mb then 1 else 0) Y = some (nI p, b, nI S, nI (mv (mayK (gI Y 96) nr o (nI p) line) (askK (gI Y 96) o) (woK nr o) bu S c).1, nI (mv (mayK (gI Y 96) nr o (nI p) line) (askK (gI Y 96) o) (woK nr o) bu S c).2, Y) := by
        intro mb hmb
        rw [hmb] at ihn
        unfold B_X10_bestSum_118 B_X10_bestSum_168 B_X10_bestSum_201
        rw [b2_of hh]
        cases hS : S.testBit k
        · rw [hS, if_neg (by decide)] at ihn
          rw [if_pos (by rfl), b2_of hh, hS, if_pos (by rfl), z, nI_1]
          exact ihn
        · rw [hS, if_pos rfl] at ihn
          rw [if_neg (by decide)]
          cases mb
          · rw [if_neg (by decide)] at ihn
            rw [if_pos (by rfl), show (7 : Int32) + nI p = nI (7 + p) from nI_add 7 p, gd_t (inb_nI (by omega) (by omega)), nI_clamp (by omega), hbu, b2_of hh, hS, if_neg (by decide), if_pos (by rfl), z, nI_1, nI_1]
            exact ihn
          · rw [if_pos rfl] at ihn
            have hge : 0 ≤ (nr (o k)).toInt := by
              unfold mayK at hmb
              simp only [Bool.and_eq_true, decide_eq_true_eq] at hmb
              have := hmb.2
              rw [Int32.lt_iff_toInt_lt] at this
              omega
            rw [if_neg (by decide), gd_t (inb_nI (by omega) (by omega)), nI_clamp (by omega), o1, b2_of hp3, b2_of hh, hS, if_neg (by decide), if_neg (by decide), gd_t (inb_nI (by omega) (by omega)), o1, gd_t (inb_nI (by omega) (by omega)), nI_clamp (by omega), o3, nI_1, show gI Y 96 (62 + 5 * o k) = nI (askK (gI Y 96) o k) from ak1, show nr (o k) = nI (woK nr o k) from vN_eq hge, nI_add, nI_add]
            exact ihn
      unfold B_X10_bestSum_117
      by_cases hpa : gI Y 96 (59 + 5 * o k) = nI p
      · rw [if_pos hpa, o1, gd_t (inb_nI (by omega) (by omega)), nI_clamp (by omega), o3, hli]
        by_cases hl : nr (o k) < line
        · rw [if_pos hl]
          exact key false (by unfold mayK; rw [decide_eq_false (show ¬ ¬ nr (o k) < line from fun x => x hl), Bool.and_false])
        · rw [if_neg hl]
          exact key true (by unfold mayK; rw [decide_eq_true hpa, decide_eq_true hl]; rfl)
      · rw [if_neg hpa]
        exact key false (by unfold mayK; rw [decide_eq_false hpa, Bool.false_and])
theorem mb_b {may : Nat → Bool} {ask wo : Nat → Nat} {bu k W : Nat} (h : ∀ S, (mv may ask wo bu S k).2 ≤ W) : ∀ n, mb may ask wo bu k n ≤ W
  | 0 => Nat.zero_le _
  | n + 1 => by
    have ih := mb_b (bu := bu) (k := k) h n
    have := h n
    unfold mb
    split
    · exact ih
    · split
      · exact ih
      · exact this
theorem m_setOut {N : Nat} (hN : 70000 < N) {nr : Nat → Int32} {o : Nat → Nat} {c p bu : Nat} {line : Int32} {Y : Mem} (h : Rel Y) (ho : ordM Y nr o c) (hp : p < nP Y) (hbu : gI Y 96 (7 + p) = nI bu) (hbub : bu ≤ 100000) (hli : gI Y 98 0 = line) (hl0 : 0 ≤ line.toInt) (hnb : ∀ k, k < c → (nr (o k)).toInt ≤ 4500000) :
    L_X10_bestSum_34 N N (nI p) 0 0 Y = some (nI (mb (mayK (gI Y 96) nr o (nI p) line) (askK (gI Y 96) o) (woK nr o) bu c (2 ^ c)), Y) := by
  have hc := ho.2.1
  have hP := h.b.P.2
  have h2c : 2 ^ c ≤ 65536 := Nat.pow_le_pow_right (n := 2) (by omega) hc
  have hmvb : ∀ S, (mv (mayK (gI Y 96) nr o (nI p) line) (askK (gI Y 96) o) (woK nr o) bu S c).1 ≤ bu + 10001 ∧ (mv (mayK (gI Y 96) nr o (nI p) line) (askK (gI Y 96) o) (woK nr o) bu S c).2 ≤ 80000000 := by
    intro S
    have g : ∀ k, k ≤ c → (mv (mayK (gI Y 96) nr o (nI p) line) (askK (gI Y 96) o) (woK nr o) bu S k).1 ≤ bu + 10001 ∧ (mv (mayK (gI Y 96) nr o (nI p) line) (askK (gI Y 96) o) (woK nr o) bu S k).2 ≤ 5000000 * k := by
      intro k
      induction k with
      | zero => exact fun _ => ⟨Nat.zero_le _, Nat.zero_le _⟩
      | succ k ih =>
        intro hk
        have ih := ih (by omega)
        have a1 := (h.b.asks (ho.2.2 k (by omega)).2.1).2
        have a2 := hnb k (by omega)
        have a3 : askK (gI Y 96) o k ≤ 10000 := by unfold askK; omega
        have a4 : woK nr o k ≤ 5000000 := by unfold woK vN; omega
        rw [mv_s, Nat.mul_succ]
        split
        · omega
        · split
          · split
            · dsimp only
              omega
            · dsimp only
              omega
          · omega
    have := g c (Nat.le_refl _)
    omega
  have hmb := mb_b (fun S => (hmvb S).2)
  refine loop_fn (fun n S => L_X10_bestSum_34 N n (nI p) (nI (mb (mayK (gI Y 96) nr o (nI p) line) (askK (gI Y 96) o) (woK nr o) bu c S)) (nI S) Y) (2 ^ c) _ (fun n S hS => ?_) (fun n => ?_) (2 ^ c) N 0 (by omega) (by omega)
  · show T_X10_bestSum_34 N (L_X10_bestSum_34 N n) _ _ _ _ = L_X10_bestSum_34 N n _ _ _ _
    have hin := m_setIn (N := N) (S := S) h ho hp hbu hbub hli hl0 hnb (nI (mb (mayK (gI Y 96) nr o (nI p) line) (askK (gI Y 96) o) (woK nr o) bu c S)) c N 0 (by omega) (by omega)
    have b1 := hmvb S
    have b2 := hmb S
    unfold T_X10_bestSum_34 B_X10_bestSum_211 B_X10_bestSum_236
    rw [ho.1, shl1 c (by omega), if_neg (nI_ge hS (by omega)), l6_of (show L_X10_bestSum_53 N N (nI p) _ (nI S) 0 0 0 Y = _ from hin), show (7 : Int32) + nI p = nI (7 + p) from nI_add 7 p, gd_t (inb_nI (by omega) (by omega)), nI_clamp (by omega), hbu, nI_1]
    show _ = L_X10_bestSum_34 N n (nI p) (nI (if bu < (mv (mayK (gI Y 96) nr o (nI p) line) (askK (gI Y 96) o) (woK nr o) bu S c).1 then mb (mayK (gI Y 96) nr o (nI p) line) (askK (gI Y 96) o) (woK nr o) bu c S else if (mv (mayK (gI Y 96) nr o (nI p) line) (askK (gI Y 96) o) (woK nr o) bu S c).2 ≤ mb (mayK (gI Y 96) nr o (nI p) line) (askK (gI Y 96) o) (woK nr o) bu c S then mb (mayK (gI Y 96) nr o (nI p) line) (askK (gI Y 96) o) (woK nr o) bu c S else (mv (mayK (gI Y 96) nr o (nI p) line) (askK (gI Y 96) o) (woK nr o) bu S c).2)) (nI (S + 1)) Y
    generalize mv (mayK (gI Y 96) nr o (nI p) line) (askK (gI Y 96) o) (woK nr o) bu S c = xs at *
    generalize mb (mayK (gI Y 96) nr o (nI p) line) (askK (gI Y 96) o) (woK nr o) bu c S = bb at *
    by_cases hov : bu < xs.1
    · rw [if_pos (nI_lt hov (by omega)), if_pos hov]
    · rw [if_neg (nI_nlt (by omega) (by omega)), if_neg hov]
      by_cases hle : xs.2 ≤ bb
      · rw [if_pos (nI_le hle (by omega)), if_pos hle]
      · rw [if_neg (nI_ge (by omega) (by omega)), if_neg hle]
  · show T_X10_bestSum_34 N (L_X10_bestSum_34 N n) _ _ _ _ = _
    unfold T_X10_bestSum_34
    rw [ho.1, shl1 c (by omega), if_pos (nI_le (Nat.le_refl _) (by omega))]
theorem OpI.gen {fl fm : Mem → Option (Int32 × Mem)} {m M Y : Mem} (h : Rel m) (u : Core m M) {b : Int32} (h1 : fl m = some (0, sJ M 108 0 b.toInt64)) (h2 : fm (sJ M 108 0 b.toInt64) = some (b, Y)) (hy : YE (Y0 M b.toInt64 0) Y) : OpI fl fm m :=
  ⟨0, _, b, _, h1, h2, by rw [hy.2.1 0 (by omega) (by omega)]; unfold Y0; rw [gI_sI, if_pos ⟨rfl, rfl⟩], fun _ => by rw [hy.2.2.2.1]; unfold Y0; rw [gJ_sI, gJ_sJ, if_pos ⟨rfl, rfl⟩], (Y0.rel (h.core u) _ _).core hy.core⟩
theorem op_bestSum {N : Nat} (hN : 70000 < N) : Op_bestSum N := by
  intro m hR a
  by_cases ha : inR a (nP m) = true
  · obtain ⟨p, hp, rfl⟩ := inR_nI ha
    have hPP := hR.b.P.2
    have hQm := hR.b.Q.2
    obtain ⟨M, e1, u⟩ := c_update (N := N) (by omega) hR
    have hM := hR.core u.1.core
    have hoC := u.ord hR
    have hoO := u.o
    have hcl : cO m ≤ nQ m := cnt_le _ _
    have hch : ChOK M := hM.2.1
    have hline : gI M 3 3 = gI m 98 0 := by rw [u.1.1 3 (by omega)]; exact hR.st.2.1
    have hl0 : 0 ≤ (gI m 98 0).toInt := hR.b.2.2.2.1 0 (by omega)
    have hnb : ∀ k, k < cO m → (nrm m (od M k)).toInt ≤ 4500000 := fun k hk => by
      have := nm_le (sv m) (show od M k < 16 by have := (hoO k hk).1; omega)
      unfold nrm
      rw [zI_toInt (by unfold zB; omega)]
      omega
    have hbu : gI m 96 (7 + p) = nI (vN (gI m 96 (7 + p))) := vN_eq (hR.b.told (by omega))
    have hbub : vN (gI m 96 (7 + p)) ≤ 100000 := hR.b.2.1.2.2.2.2.2.2.2.2.1 p hp
    generalize hbg : vN (gI m 96 (7 + p)) = bu at *
    -- clear
    obtain ⟨M1, a1, a2, a3, a4⟩ := c_clear (N := N) (Or.inl rfl) hch.1
    obtain ⟨M2, g1, g2, g3, g4⟩ := c_clear (N := N) (q := 66) (Or.inr rfl) (M := M1) (by
      have := hch.2
      unfold ChAt at *
      simp only [a2.2.1 66 _ (by omega)]
      exact this)
    have k0 : KE M (sI M2 60 2 0) := ((a2.ke (Or.inl rfl)).trans (g2.ke (Or.inr rfl))).trans (KE.sI _ (by omega))
    have hks : KS (sI M2 60 2 0) [] [] 0 (fun _ => 0) (fun _ => 0) 1 (fun _ => 0) (fun _ => 0) 1 := by
      refine ⟨?_, Par.nil _ _ rfl rfl, by decide, ?_, Par.nil _ _ rfl rfl, by decide, by rw [gI_sI, if_pos ⟨rfl, rfl⟩]; rfl, rfl, rfl, fun x hx => (by cases hx), fun x hx => (by cases hx)⟩
      · exact a4.keep (fun k _ _ => by rw [sI_ne _ _ (by omega)]; exact g2.1 k (by omega)) (fun j => g2.2.1 61 j (by omega))
      · exact g4.keep (fun k _ _ => sI_ne _ _ (by omega)) (fun _ => rfl)
    have h3 := hM.core (k0.core hks.ch)
    obtain ⟨M3, l1, l2, oc, c1, w1, n1, c2, w2, n2, d1, d2, d3, d4, d5⟩ := c_walkB (N := N) (by omega) (nr := nrm m) (o := od M) (c := cO m) (nI p) (gI m 98 0) hl0 hnb (cO m) N 0 (sI M2 60 2 0) [] [] 0 _ _ 1 _ _ 1 h3 (ordC.ke hoC k0) (by rw [k0.1 3 (by omega)]; exact hline) (by omega) (by omega) (by omega) hks At.split0
    rw [k0.v.1, u.1.v.1] at d5
    have hKE := k0.trans d2
    have h4 := hM.core (hKE.core d3.ch)
    have d3' := d3
    obtain ⟨x1, x2, x3, x4, x5, x6, x7, x8, x9, x10, x11⟩ := d3
    have hpw : ∀ x, x ≤ 8 → 2 ^ x ≤ 256 := fun x hx => Nat.pow_le_pow_right (n := 2) (by omega) hx
    have hlen1 : l1.length ≤ 8 := by omega
    have hlen2 : l2.length ≤ 8 := by omega
    have hn1 : n1 ≤ 256 := Nat.le_trans x3 (hpw _ hlen1)
    have hn2 : n2 ≤ 256 := Nat.le_trans x6 (hpw _ hlen2)
    obtain ⟨B, y1, y2⟩ := c_bestOut (N := N) (by omega) (l := ofr (mayK (gI m 96) (nrm m) (od M) (nI p) (gI m 98 0)) (askK (gI m 96) (od M)) (woK (nrm m) (od M)) (cO m)) x1 x4 x2 x5 hn1 hn2 (x2.bd x10 hlen1) (x5.bd x11 hlen2) hbub d5 n1 N 0 n2 0 (by omega) (by omega) (TP.start _ _ _ _ _ _ _)
    have hBm := mb_opt (mayK (gI m 96) (nrm m) (od M) (nI p) (gI m 98 0)) (askK (gI m 96) (od M)) (woK (nrm m) (od M)) bu (cO m)
    have hBeq := y2.uniq hBm
    have hcore : Core m M3 := u.1.core.trans (hKE.core d3'.ch)
    have vM3 : SV m M3 := ⟨hKE.v.1.trans u.1.v.1, hKE.v.2.trans u.1.v.2⟩
    have v0 := Y0.v M3 (nI B).toInt64 0
    have hY := Y0.rel h4 (nI B).toInt64 0
    obtain ⟨Y1, z1, z2, z3⟩ := m_lays (N := N) (by omega) hY (o := od M) (by rw [v0.zrn, v0.zbf, v0.q, vM3.zrn, vM3.zbf, vM3.q]; exact hoO)
    have z3' : ordM Y1 (nrm m) (od M) (cO m) := by
      have e1 : (fun p => zI (nm (sv (Y0 M3 (nI B).toInt64 0)) p)) = nrm m := by
        funext p
        unfold nrm
        rw [v0.zsv, vM3.zsv]
      have e2 : cnt (rn (Y0 M3 (nI B).toInt64 0)) (nQ (Y0 M3 (nI B).toInt64 0)) = cO m := by
        unfold cO
        rw [v0.zrn, v0.q, vM3.zrn, vM3.q]
      rw [e1, e2] at z3
      exact z3
    have hY1 := hY.core z2.core
    have y96 : gI Y1 96 = gI m 96 := by rw [z2.v.1, v0.1, vM3.1]
    have y98 : gI Y1 98 = gI m 98 := by rw [z2.v.2, v0.2, vM3.2]
    have hmo := m_setOut hN (bu := bu) (line := gI m 98 0) hY1 z3' (p := p) (by rw [z2.v.p, v0.p, vM3.p]; exact hp) (by rw [y96]; exact hbu) hbub (by rw [y98]) hl0 hnb
    rw [y96, ← hBeq] at hmo
    refine OpI.gen hR hcore (b := nI B) ?_ ?_ z2
    · unfold f_L_bestSum
      refine (xh_of (a := nI B) (m := M3) ?_).trans rfl
      unfold f_X9_bestSum
      have hcl3 : f_X3_clear N M = some (sI M2 60 2 0) := by
        unfold f_X3_clear
        rw [b1_of a1, b1_of g1, wr_eq]
      have hb' : gI M3 (gR M3 0 7 + (3 - 2)) p = nI bu := by
        have := h4.b.budget (i := p) (by rw [vM3.p]; exact hp)
        rw [vM3.1, hbu] at this
        exact this
      rw [x1_of (by rw [c_checkPanel N hR.b, if_pos ha]), b1_of e1, b1_of hcl3, l2_of (show L_X9_bestSum_29 N N (nI p) 0 (sI M2 60 2 0) = _ from d1), gd_t (st_k h4.b.s), gd_t (st_ok h4.b.s (by omega) (by omega) (show p < 4 by omega)), st_rt h4.b.s (by omega) (by omega), nI_clamp (by omega), hb']
      have hfb : f_X3_best N (nI bu) M3 = some (nI B, M3) := by
        unfold f_X3_best
        rw [x4.2.1, show nI n2 - 1 = zI ((n2 : Int) - 1) by rw [← zI_nI, show (1 : Int32) = zI 1 from rfl, zI_sub]]
        exact y1
      rw [b2_of hfb]
    · have hJ : Rel (sJ M3 108 0 (nI B).toInt64) := h4.core Core.sJ'
      unfold f_X10_bestSum B_X10_bestSum_14
      rw [b2_of (m_isPanel N hJ.b (nI p)), show nP (sJ M3 108 0 (nI B).toInt64) = nP M3 from rfl, vM3.p, if_pos ha, if_neg (by decide), rs_ok]
      change b1 (f_X10_laysOrder N (Y0 M3 (nI B).toInt64 0)) _ = _
      rw [b1_of z1, l2_of hmo]
  · refine OpI.no hR (v := 1) (w := 0) (by decide) ?_ ?_ (Or.inl rfl)
    · unfold f_L_bestSum f_X9_bestSum
      rw [x1_th (by rw [c_checkPanel N hR.b, if_neg ha])]
      rfl
    · unfold f_X10_bestSum B_X10_bestSum_14
      rw [b2_of (m_isPanel N hR.b a), if_neg ha, if_pos rfl, rs_no _ (by decide)]
