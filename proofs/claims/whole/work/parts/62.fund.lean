/-! FUNDING: the pure walk, the class's -/
def shr (mode rest ask lea : Int32) : Int32 := if rest < ask then (if mode = 2 then (if rest < lea then 0 else rest) else 0) else ask
def fp (t nr : Nat → Int32) (o : Nat → Nat) (mode line pa : Int32) : Nat → Nat → Bool → Int32 → (Nat → Int32) → Int32 × (Nat → Int32)
  | 0, _, _, rest, sh => (rest, sh)
  | d + 1, i, go, rest, sh => if go then (if t (59 + 5 * o i) = pa then (if nr (o i) < line then fp t nr o mode line pa d (i + 1) go rest sh else
      fp t nr o mode line pa d (i + 1) (decide (mode = 1) || decide (shr mode rest (t (62 + 5 * o i)) (t (63 + 5 * o i)) = t (62 + 5 * o i))) (rest - shr mode rest (t (62 + 5 * o i)) (t (63 + 5 * o i))) (upN sh (o i) (shr mode rest (t (62 + 5 * o i)) (t (63 + 5 * o i)))))
      else fp t nr o mode line pa d (i + 1) go rest sh) else (rest, sh)
theorem fp_s (t nr : Nat → Int32) (o : Nat → Nat) (mode line pa : Int32) (d i : Nat) (go : Bool) (rest : Int32) (sh : Nat → Int32) : fp t nr o mode line pa (d + 1) i go rest sh = if go then (if t (59 + 5 * o i) = pa then (if nr (o i) < line then fp t nr o mode line pa d (i + 1) go rest sh else
      fp t nr o mode line pa d (i + 1) (decide (mode = 1) || decide (shr mode rest (t (62 + 5 * o i)) (t (63 + 5 * o i)) = t (62 + 5 * o i))) (rest - shr mode rest (t (62 + 5 * o i)) (t (63 + 5 * o i))) (upN sh (o i) (shr mode rest (t (62 + 5 * o i)) (t (63 + 5 * o i)))))
      else fp t nr o mode line pa d (i + 1) go rest sh) else (rest, sh) := rfl
def fa (t nr : Nat → Int32) (o : Nat → Nat) (c : Nat) (mode line : Int32) : Nat → Nat → Int32 → (Nat → Int32) → (Nat → Int32) → Int32 × (Nat → Int32) × (Nat → Int32)
  | 0, _, pool, sh, le => (pool, sh, le)
  | d + 1, pa, pool, sh, le => fa t nr o c mode line d (pa + 1) (pool + (fp t nr o mode line (nI pa) c 0 true (t (7 + pa)) sh).1) (fp t nr o mode line (nI pa) c 0 true (t (7 + pa)) sh).2 (upN le pa (fp t nr o mode line (nI pa) c 0 true (t (7 + pa)) sh).1)
theorem fa_s (t nr : Nat → Int32) (o : Nat → Nat) (c : Nat) (mode line : Int32) (d pa : Nat) (pool : Int32) (sh le : Nat → Int32) : fa t nr o c mode line (d + 1) pa pool sh le = fa t nr o c mode line d (pa + 1) (pool + (fp t nr o mode line (nI pa) c 0 true (t (7 + pa)) sh).1) (fp t nr o mode line (nI pa) c 0 true (t (7 + pa)) sh).2 (upN le pa (fp t nr o mode line (nI pa) c 0 true (t (7 + pa)) sh).1) := rfl
def fq (t nr : Nat → Int32) (o : Nat → Nat) (line : Int32) : Nat → Nat → Int32 → (Nat → Int32) → Int32 × (Nat → Int32)
  | 0, _, pool, sh => (pool, sh)
  | d + 1, i, pool, sh => if nr (o i) < line then fq t nr o line d (i + 1) pool sh else if sh (o i) = 0 then (if pool < t (62 + 5 * o i) then fq t nr o line d (i + 1) pool sh else fq t nr o line d (i + 1) (pool - t (62 + 5 * o i)) (upN sh (o i) (t (62 + 5 * o i)))) else fq t nr o line d (i + 1) pool sh
theorem fq_s (t nr : Nat → Int32) (o : Nat → Nat) (line : Int32) (d i : Nat) (pool : Int32) (sh : Nat → Int32) : fq t nr o line (d + 1) i pool sh = if nr (o i) < line then fq t nr o line d (i + 1) pool sh else if sh (o i) = 0 then (if pool < t (62 + 5 * o i) then fq t nr o line d (i + 1) pool sh else fq t nr o line d (i + 1) (pool - t (62 + 5 * o i)) (upN sh (o i) (t (62 + 5 * o i)))) else fq t nr o line d (i + 1) pool sh := rfl
/-- who gets nothing where he does not stand in the order -/
theorem fp_out {t nr : Nat → Int32} {o : Nat → Nat} {mode line pa : Int32} {j : Nat} : ∀ d i go rest sh, (∀ k, i ≤ k → k < i + d → o k ≠ j) → (fp t nr o mode line pa d i go rest sh).2 j = sh j
  | 0, _, _, _, _, _ => rfl
  | d + 1, i, go, rest, sh, h => by
    have ih : ∀ go rest sh, (fp t nr o mode line pa d (i + 1) go rest sh).2 j = sh j := fun go rest sh => fp_out d (i + 1) go rest sh (fun k h1 h2 => h k (by omega) (by omega))
    rw [fp_s]
    split
    · split
      · split
        · exact ih _ _ _
        · rw [ih, upN_ne _ _ (fun e => h i (by omega) (by omega) e.symm)]
      · exact ih _ _ _
    · rfl
theorem fa_out {t nr : Nat → Int32} {o : Nat → Nat} {c : Nat} {mode line : Int32} {j : Nat} (h : ∀ k, k < c → o k ≠ j) : ∀ d pa pool sh le, (fa t nr o c mode line d pa pool sh le).2.1 j = sh j
  | 0, _, _, _, _ => rfl
  | d + 1, pa, pool, sh, le => by
    rw [fa_s, fa_out h d (pa + 1), fp_out c 0 _ _ _ (fun k _ h2 => h k (by omega))]
theorem fq_out {t nr : Nat → Int32} {o : Nat → Nat} {line : Int32} {j : Nat} : ∀ d i pool sh, (∀ k, i ≤ k → k < i + d → o k ≠ j) → (fq t nr o line d i pool sh).2 j = sh j
  | 0, _, _, _, _ => rfl
  | d + 1, i, pool, sh, h => by
    have ih : ∀ pool sh, (fq t nr o line d (i + 1) pool sh).2 j = sh j := fun pool sh => fq_out d (i + 1) pool sh (fun k h1 h2 => h k (by omega) (by omega))
    rw [fq_s]
    split
    · exact ih _ _
    · split
      · split
        · exact ih _ _
        · rw [ih, upN_ne _ _ (fun e => h i (by omega) (by omega) e.symm)]
      · exact ih _ _
def fin (t nr : Nat → Int32) (o : Nat → Nat) (c n : Nat) (mode line : Int32) : Int32 × (Nat → Int32) × (Nat → Int32) := fa t nr o c mode line n 0 (t 5) (fun _ => 0) (fun _ => 0)
def fiS (t nr : Nat → Int32) (o : Nat → Nat) (c n : Nat) (mode line : Int32) : Int32 × (Nat → Int32) := fq t nr o line c 0 (fin t nr o c n mode line).1 (fin t nr o c n mode line).2.1
theorem fiS_out {t nr : Nat → Int32} {o : Nat → Nat} {c n : Nat} {mode line : Int32} {j : Nat} (h : ∀ k, k < c → o k ≠ j) : (fiS t nr o c n mode line).2 j = 0 := by
  unfold fiS fin
  rw [fq_out _ _ _ _ (fun k _ h2 => h k (by omega)), fa_out h]
def FunE (m M : Mem) : Prop := (∀ k, ¬ (38 ≤ k ∧ k ≤ 50) → gI M k = gI m k) ∧ (∀ k j, gR M k j = gR m k j) ∧ (∀ k j, gJ M k j = gJ m k j) ∧ (∀ k j, gD M k j = gD m k j)
def F49 (m M : Mem) : Prop := (∀ k, ¬ (48 ≤ k ∧ k ≤ 50) → gI M k = gI m k) ∧ (∀ k j, gR M k j = gR m k j) ∧ (∀ k j, gJ M k j = gJ m k j) ∧ (∀ k j, gD M k j = gD m k j)
theorem F49.refl (m : Mem) : F49 m m := ⟨fun _ _ => rfl, fun _ _ => rfl, fun _ _ => rfl, fun _ _ => rfl⟩
theorem F49.trans {a b c : Mem} (h : F49 a b) (h' : F49 b c) : F49 a c := ⟨fun k hk => (h'.1 k hk).trans (h.1 k hk), fun k j => (h'.2.1 k j).trans (h.2.1 k j), fun k j => (h'.2.2.1 k j).trans (h.2.2.1 k j), fun k j => (h'.2.2.2 k j).trans (h.2.2.2 k j)⟩
theorem F49.sI (m : Mem) {k j : Nat} {v : Int32} (hk : 48 ≤ k ∧ k ≤ 50) : F49 m (sI m k j v) := ⟨fun k' hk' => sI_ne _ _ (by omega), fun _ _ => rfl, fun _ _ => rfl, fun _ _ => rfl⟩
theorem F49.core {m M : Mem} (h : F49 m M) : Core m M := by
  refine ⟨fun k hk => h.1 k (by omega), fun j _ => by rw [h.1 1 (by omega)], fun j _ => by rw [h.1 95 (by omega)], h.2.1 0 7, h.2.1 0 8, fun hc => ?_⟩
  unfold ChOK ChAt at *
  simp only [h.2.1]
  exact hc
theorem F49.v {m M : Mem} (h : F49 m M) : SV m M := ⟨h.1 96 (by omega), h.1 98 (by omega)⟩
theorem FunE.of {m M X : Mem} (h : UpdE m M) (h' : F49 M X) : FunE m X := ⟨fun k hk => (h'.1 k (by omega)).trans (h.1 k (by omega)), fun k j => (h'.2.1 k j).trans (h.2.1 k j), fun k j => (h'.2.2.1 k j).trans (h.2.2.1 k j), fun k j => (h'.2.2.2 k j).trans (h.2.2.2 k j)⟩
theorem c_fill {N : Nat} {k L : Nat} (hk : kd k = 12) (hL : ln k = L) (hL' : L < 2 ^ 31) (hN : L < N) (v : Int32) (m : Mem) : ∃ M, f_J7_fill_53178 N k v m = some M ∧ (∀ k', k' ≠ k → gI M k' = gI m k') ∧ (∀ j, gI M k j = if j < L then v else gI m k j) ∧ (∀ k j, gR M k j = gR m k j) ∧ (∀ k j, gJ M k j = gJ m k j) ∧ (∀ k j, gD M k j = gD m k j) := by
  have go : ∀ d n i m, i + d = L → d < n → ∃ M, L_J7_fill_53178_5 N n k v (nI i) (nI L) m = some M ∧ (∀ k', k' ≠ k → gI M k' = gI m k') ∧ (∀ j, gI M k j = if i ≤ j ∧ j < L then v else gI m k j) ∧ (∀ k j, gR M k j = gR m k j) ∧ (∀ k j, gJ M k j = gJ m k j) ∧ (∀ k j, gD M k j = gD m k j) := by
    intro d
    induction d with
    | zero =>
      intro n i m hi hn
      obtain ⟨n, rfl⟩ : ∃ k, n = k + 1 := ⟨n - 1, by omega⟩
      refine ⟨m, ?_, fun _ _ => rfl, fun j => by rw [if_neg (by omega)], fun _ _ => rfl, fun _ _ => rfl, fun _ _ => rfl⟩
      show T_J7_fill_53178_5 N (L_J7_fill_53178_5 N n) _ _ _ _ _ = _
      unfold T_J7_fill_53178_5
      rw [if_pos (nI_le (by omega) (by omega))]
    | succ d ih =>
      intro n i m hi hn
      obtain ⟨n, rfl⟩ : ∃ k, n = k + 1 := ⟨n - 1, by omega⟩
      obtain ⟨M, a1, a2, a3, a4, a5, a6⟩ := ih n (i + 1) (sI m k i v) (by omega) (by omega)
      refine ⟨M, ?_, fun k' hk' => by rw [a2 k' hk', sI_ne _ _ hk'], fun j => ?_, fun k j => a4 k j, fun k j => a5 k j, fun k j => a6 k j⟩
      · show T_J7_fill_53178_5 N (L_J7_fill_53178_5 N n) _ _ _ _ _ = _
        unfold T_J7_fill_53178_5
        rw [if_neg (nI_ge (by omega) (by omega)), gd_t (by unfold okA; rw [hk, hL, inb_nI (by omega) (by omega)]; rfl), nI_clamp (by omega), wr_eq, nI_1]
        exact a1
      · rw [a3 j]
        by_cases hj : i + 1 ≤ j ∧ j < L
        · rw [if_pos hj, if_pos (by omega)]
        · rw [if_neg hj, gI_sI]
          by_cases hji : j = i
          · rw [if_pos ⟨rfl, hji⟩, if_pos (by omega)]
          · rw [if_neg (by omega), if_neg (by omega)]
  obtain ⟨M, a1, a2, a3, a4, a5, a6⟩ := go L N 0 m (by omega) hN
  refine ⟨M, ?_, a2, fun j => by rw [a3 j]; simp, a4, a5, a6⟩
  unfold f_J7_fill_53178
  rw [gd_t (by rw [hk]; rfl), hL, l1_of (show L_J7_fill_53178_5 N N k v 0 (Int32.ofNat L) m = _ from a1)]
/-- the class's order is laid -/
def ordC (M : Mem) (nr : Nat → Int32) (o : Nat → Nat) (c : Nat) : Prop := gI M 38 9 = nI c ∧ c ≤ 16 ∧ (∀ i, i < c → gI M 47 i = nI (o i) ∧ o i < nQ M ∧ gI M 43 (o i) = nr (o i))
theorem ordC.keep {M X : Mem} {nr : Nat → Int32} {o : Nat → Nat} {c : Nat} (h : ordC M nr o c) (e : F49 M X) : ordC X nr o c := by
  unfold ordC at *
  rw [e.1 38 (by omega), e.1 47 (by omega), e.1 43 (by omega), e.v.q]
  exact h
theorem RelB.least {m : Mem} (h : RelB m) {p : Nat} (hp : p < nQ m) : 1 ≤ vN (gI m 96 (63 + 5 * p)) := (h.2.1.2.2.2.2.2.2.2.2.2.2.1 p hp).2.2.2.2.1
theorem c_share (N : Nat) (mode rest ask lea : Int32) (m : Mem) : f_X1_panelShare N mode rest ask lea m = some (shr mode rest ask lea, m) := by
  unfold f_X1_panelShare B_X1_panelShare_21 shr
  split
  · split
    · split <;> rfl
    · rfl
  · rfl
theorem c_fp {N : Nat} {nr : Nat → Int32} {o : Nat → Nat} {c : Nat} (mode line pa : Int32) : ∀ d n i (go : Bool) rest sh M, Rel M → ordC M nr o c → i + d = c → d < n → (∀ j, j < 16 → gI M 49 j = sh j) →
    ∃ M', L_X1_fundPanel_15 N n (gR M 0 7) mode line pa rest (if go then 1 else 0) (nI i) M = some (pa, (fp (gI M 96) nr o mode line pa d i go rest sh).1, M') ∧ F49 M M' ∧ gI M' 48 = gI M 48 ∧ gI M' 50 = gI M 50 ∧ (∀ j, j < 16 → gI M' 49 j = (fp (gI M 96) nr o mode line pa d i go rest sh).2 j) := by
  intro d
  induction d with
  | zero =>
    intro n i go rest sh M h ho hi hn hs
    obtain ⟨n, rfl⟩ : ∃ k, n = k + 1 := ⟨n - 1, by omega⟩
    refine ⟨M, ?_, F49.refl M, rfl, rfl, hs⟩
    have := ho.2.1
    show T_X1_fundPanel_15 N (L_X1_fundPanel_15 N n) _ _ _ _ _ _ _ _ = _
    unfold T_X1_fundPanel_15
    rw [ho.1, if_pos (nI_le (by omega) (by omega))]
    rfl
  | succ d ih =>
    intro n i go rest sh M h ho hi hn hs
    obtain ⟨n, rfl⟩ : ∃ k, n = k + 1 := ⟨n - 1, by omega⟩
    obtain ⟨c1, c2, c3⟩ := ho
    obtain ⟨o1, o2, o3⟩ := c3 i (by omega)
    have hQ := h.b.Q.2
    have e12 : gI M (gR M 0 7 + (12 - 2)) (o i) = gI M 96 (62 + 5 * o i) := (h.b.rowP o2).2.2.2.1
    have e13 : gI M (gR M 0 7 + (13 - 2)) (o i) = gI M 96 (63 + 5 * o i) := (h.b.rowP o2).2.2.2.2
    rw [fp_s]
    show ∃ M', T_X1_fundPanel_15 N (L_X1_fundPanel_15 N n) _ _ _ _ _ _ _ _ = _ ∧ _
    unfold T_X1_fundPanel_15 B_X1_fundPanel_123 B_X1_fundPanel_128
    rw [c1, if_neg (nI_ge (by omega) (by omega))]
    cases go
    · rw [if_pos (by rfl)]
      exact ⟨M, rfl, F49.refl M, rfl, rfl, hs⟩
    · rw [if_neg (by decide), gd_t (inb_nI (by omega) (by omega)), gd_t (st_k h.b.s), nI_clamp (by omega), o1, gd_t (st_ok h.b.s (by omega) (by omega) (show o i < 16 by omega)), st_rt h.b.s (by omega) (by omega), nI_clamp (by omega), show gI M (gR M 0 7 + (9 - 2)) (o i) = gI M 96 (59 + 5 * o i) from (h.b.rowP o2).1, if_pos (show (true = true) from rfl)]
      by_cases hpa : gI M 96 (59 + 5 * o i) = pa
      · rw [if_pos hpa, if_pos hpa, gd_t (inb_nI (by omega) (by omega)), o3]
        by_cases hl : nr (o i) < line
        · rw [if_pos hl, if_pos hl, nI_1]
          exact ih n (i + 1) true rest sh M h ⟨c1, c2, c3⟩ (by omega) (by omega) hs
        · rw [if_neg hl, if_neg hl, gd_t (st_ok h.b.s (by omega) (by omega) (show o i < 16 by omega)), gd_t (st_ok h.b.s (by omega) (by omega) (show o i < 16 by omega)), st_rt h.b.s (by omega) (by omega), st_rt h.b.s (by omega) (by omega), e12, e13, b2_of (c_share N mode rest _ _ M)]
          generalize hsv : shr mode rest (gI M 96 (62 + 5 * o i)) (gI M 96 (63 + 5 * o i)) = s
          rw [wr_eq, show gI (sI M 49 (o i) s) 49 (o i) = s by rw [gI_sI, if_pos ⟨rfl, rfl⟩], sI_ne _ _ (show gR M 0 7 + (12 - 2) ≠ 49 by have := h.b.s; omega), e12, nI_1]
          have u : F49 M (sI M 49 (o i) s) := F49.sI _ (by omega)
          have hX := h.core u.core
          have hne48 : gI (sI M 49 (o i) s) 48 = gI M 48 := sI_ne _ _ (by omega)
          have hne50 : gI (sI M 49 (o i) s) 50 = gI M 50 := sI_ne _ _ (by omega)
          have key : ∀ b : Bool, ∃ M', L_X1_fundPanel_15 N n (gR M 0 7) mode line pa (rest - s) (if b then 1 else 0) (nI (i + 1)) (sI M 49 (o i) s) = some (pa, (fp (gI M 96) nr o mode line pa d (i + 1) b (rest - s) (upN sh (o i) s)).1, M') ∧ F49 M M' ∧ gI M' 48 = gI M 48 ∧ gI M' 50 = gI M 50 ∧ (∀ j, j < 16 → gI M' 49 j = (fp (gI M 96) nr o mode line pa d (i + 1) b (rest - s) (upN sh (o i) s)).2 j) := by
            intro b
            obtain ⟨M', a1, a2, a3, a4, a5⟩ := ih n (i + 1) b (rest - s) (upN sh (o i) s) (sI M 49 (o i) s) hX (ordC.keep ⟨c1, c2, c3⟩ u) (by omega) (by omega) (fun j hj => by
              rw [upN_sI]
              by_cases hjo : j = o i
              · rw [hjo, upN_same, upN_same]
              · rw [upN_ne _ _ hjo, upN_ne _ _ hjo]
                exact hs j hj)
            rw [u.1 96 (by omega)] at a1 a5
            exact ⟨M', a1, u.trans a2, a3.trans hne48, a4.trans hne50, a5⟩
          by_cases hm : mode = 1
          · rw [if_pos hm, decide_eq_true hm, Bool.true_or]
            exact key true
          · rw [if_neg hm, decide_eq_false hm, Bool.false_or]
            by_cases hsa : s = gI M 96 (62 + 5 * o i)
            · rw [if_pos hsa, decide_eq_true hsa]
              exact key true
            · rw [if_neg hsa, decide_eq_false hsa]
              exact key false
      · rw [if_neg hpa, if_neg hpa, nI_1]
        exact ih n (i + 1) true rest sh M h ⟨c1, c2, c3⟩ (by omega) (by omega) hs
theorem RelB.budget {m : Mem} (h : RelB m) {i : Nat} (hi : i < nP m) : gI m (gR m 0 7 + 1) i = gI m 96 (7 + i) := h.2.2.1.2.2.2.2.2.2.2.1 i hi
theorem RelB.pool {m : Mem} (h : RelB m) : gI m (gR m 0 7) 17 = gI m 96 5 := h.2.2.1.2.2.2.2.2.1
theorem c_fa {N : Nat} (hN : 17 < N) {nr : Nat → Int32} {o : Nat → Nat} {c : Nat} (mode line : Int32) : ∀ d n pa sh le M, Rel M → ordC M nr o c → pa + d = nP M → d < n → (∀ j, j < 16 → gI M 49 j = sh j) → (∀ j, j < pa → gI M 50 j = le j) →
    ∃ M', L_X1_distribute_19 N n (gR M 0 7) mode line (nI pa) M = some (gR M 0 7, line, M') ∧ F49 M M' ∧ gI M' 48 2 = (fa (gI M 96) nr o c mode line d pa (gI M 48 2) sh le).1 ∧ (∀ j, j < 16 → gI M' 49 j = (fa (gI M 96) nr o c mode line d pa (gI M 48 2) sh le).2.1 j) ∧ (∀ j, j < nP M → gI M' 50 j = (fa (gI M 96) nr o c mode line d pa (gI M 48 2) sh le).2.2 j) := by
  intro d
  induction d with
  | zero =>
    intro n pa sh le M h ho hi hn hs hl
    have hP := h.b.P.2
    obtain ⟨n, rfl⟩ : ∃ k, n = k + 1 := ⟨n - 1, by omega⟩
    refine ⟨M, ?_, F49.refl M, rfl, hs, fun j hj => hl j (by omega)⟩
    show T_X1_distribute_19 N (L_X1_distribute_19 N n) _ _ _ _ _ = _
    unfold T_X1_distribute_19
    rw [gd_t (st_k h.b.s), h.b.cP, if_pos (nI_le (by omega) (by omega))]
  | succ d ih =>
    intro n pa sh le M h ho hi hn hs hl
    have hP := h.b.P.2
    have hc := ho.2.1
    obtain ⟨n, rfl⟩ : ∃ k, n = k + 1 := ⟨n - 1, by omega⟩
    obtain ⟨M1, a1, a2, a3, a4, a5⟩ := c_fp (N := N) (nr := nr) (o := o) (c := c) mode line (nI pa) c N 0 true (gI M 96 (7 + pa)) sh M h ho (by omega) (by omega) hs
    rw [fa_s]
    generalize hr : fp (gI M 96) nr o mode line (nI pa) c 0 true (gI M 96 (7 + pa)) sh = r at *
    have u1 : F49 M1 (sI (sI M1 50 pa r.1) 48 2 (gI M 48 2 + r.1)) := (F49.sI _ (by omega)).trans (F49.sI _ (by omega))
    have u := a2.trans u1
    have hX := h.core u.core
    obtain ⟨M', b1, b2, b3, b4, b5⟩ := ih n (pa + 1) r.2 (upN le pa r.1) (sI (sI M1 50 pa r.1) 48 2 (gI M 48 2 + r.1)) hX (ho.keep u) (by rw [u.v.p]; omega) (by omega) (fun j hj => by rw [sI_ne _ _ (by omega), sI_ne _ _ (by omega)]; exact a5 j hj) (fun j hj => by
      rw [sI_ne _ _ (by omega), upN_sI, a4]
      by_cases hjp : j = pa
      · rw [hjp, upN_same, upN_same]
      · rw [upN_ne _ _ hjp, upN_ne _ _ hjp]
        exact hl j (by omega))
    rw [u.2.1] at b1
    rw [u.1 96 (by omega), show gI (sI (sI M1 50 pa r.1) 48 2 (gI M 48 2 + r.1)) 48 2 = gI M 48 2 + r.1 by rw [gI_sI, if_pos ⟨rfl, rfl⟩]] at b3 b4 b5
    rw [u.v.p] at b5
    refine ⟨M', ?_, u.trans b2, b3, b4, b5⟩
    show T_X1_distribute_19 N (L_X1_distribute_19 N n) _ _ _ _ _ = _
    unfold T_X1_distribute_19
    have hf : f_X1_fundPanel N (gR M 0 7) mode line (nI pa) M = some (sI M1 50 pa r.1) := by
      unfold f_X1_fundPanel B_X1_fundPanel_136
      rw [gd_t (st_k h.b.s), gd_t (st_ok h.b.s (by omega) (by omega) (show pa < 4 by omega)), st_rt h.b.s (by omega) (by omega), nI_clamp (by omega), show gI M (gR M 0 7 + (3 - 2)) pa = gI M 96 (7 + pa) from h.b.budget (by omega), l3_of (show L_X1_fundPanel_15 N N (gR M 0 7) mode line (nI pa) (gI M 96 (7 + pa)) 1 0 M = _ from a1), gd_t (inb_nI (by omega) (by omega)), nI_clamp (by omega), wr_eq]
    rw [gd_t (st_k h.b.s), h.b.cP, if_neg (nI_ge (by omega) (by omega)), b1_of hf, gd_t (inb_nI (by omega) (by omega)), nI_clamp (by omega), show gI (sI M1 50 pa r.1) 48 2 = gI M 48 2 by rw [sI_ne _ _ (by omega), a3], show gI (sI M1 50 pa r.1) 50 pa = r.1 by rw [gI_sI, if_pos ⟨rfl, rfl⟩], wr_eq, nI_1]
    exact b1
theorem c_fq {N : Nat} {nr : Nat → Int32} {o : Nat → Nat} {c : Nat} (line : Int32) : ∀ d n i sh M, Rel M → ordC M nr o c → i + d = c → d < n → (∀ j, j < 16 → gI M 49 j = sh j) →
    ∃ M', L_X1_fundFromPool_3 N n (gR M 0 7) line (nI i) M = some M' ∧ F49 M M' ∧ gI M' 50 = gI M 50 ∧ gI M' 48 2 = (fq (gI M 96) nr o line d i (gI M 48 2) sh).1 ∧ (∀ j, j < 16 → gI M' 49 j = (fq (gI M 96) nr o line d i (gI M 48 2) sh).2 j) := by
  intro d
  induction d with
  | zero =>
    intro n i sh M h ho hi hn hs
    have hc := ho.2.1
    obtain ⟨n, rfl⟩ : ∃ k, n = k + 1 := ⟨n - 1, by omega⟩
    refine ⟨M, ?_, F49.refl M, rfl, rfl, hs⟩
    show T_X1_fundFromPool_3 N (L_X1_fundFromPool_3 N n) _ _ _ _ = _
    unfold T_X1_fundFromPool_3
    rw [ho.1, if_pos (nI_le (by omega) (by omega))]
  | succ d ih =>
    intro n i sh M h ho hi hn hs
    obtain ⟨n, rfl⟩ : ∃ k, n = k + 1 := ⟨n - 1, by omega⟩
    obtain ⟨c1, c2, c3⟩ := ho
    obtain ⟨o1, o2, o3⟩ := c3 i (by omega)
    have hQ := h.b.Q.2
    have e12 : gI M (gR M 0 7 + (12 - 2)) (o i) = gI M 96 (62 + 5 * o i) := (h.b.rowP o2).2.2.2.1
    have skip := ih n (i + 1) sh M h ⟨c1, c2, c3⟩ (by omega) (by omega) hs
    rw [fq_s]
    show ∃ M', T_X1_fundFromPool_3 N (L_X1_fundFromPool_3 N n) _ _ _ _ = _ ∧ _
    unfold T_X1_fundFromPool_3
    rw [c1, if_neg (nI_ge (by omega) (by omega)), gd_t (inb_nI (by omega) (by omega)), nI_clamp (by omega), o1, gd_t (inb_nI (by omega) (by omega)), nI_clamp (by omega), o3, hs (o i) (by omega), nI_1]
    by_cases hl : nr (o i) < line
    · rw [if_pos hl, if_pos hl]
      exact skip
    · rw [if_neg hl, if_neg hl]
      by_cases hz : sh (o i) = 0
      · rw [if_pos hz, if_pos hz, gd_t (st_k h.b.s), gd_t (st_ok h.b.s (by omega) (by omega) (show o i < 16 by omega)), st_rt h.b.s (by omega) (by omega), e12]
        by_cases hp : gI M 48 2 < gI M 96 (62 + 5 * o i)
        · rw [if_pos hp, if_pos hp]
          exact skip
        · rw [if_neg hp, if_neg hp]
          generalize gI M 96 (62 + 5 * o i) = s
          rw [wr_eq, show gI (sI M 49 (o i) s) 49 (o i) = s by rw [gI_sI, if_pos ⟨rfl, rfl⟩], sI_ne _ _ (show (48 : Nat) ≠ 49 by omega), wr_eq]
          have u : F49 M (sI (sI M 49 (o i) s) 48 2 (gI M 48 2 - s)) := (F49.sI _ (by omega)).trans (F49.sI _ (by omega))
          have hX := h.core u.core
          obtain ⟨M', a1, a2, a3, a4, a5⟩ := ih n (i + 1) (upN sh (o i) s) (sI (sI M 49 (o i) s) 48 2 (gI M 48 2 - s)) hX (ordC.keep ⟨c1, c2, c3⟩ u) (by omega) (by omega) (fun j hj => by
            rw [sI_ne _ _ (by omega), upN_sI]
            by_cases hjo : j = o i
            · rw [hjo, upN_same, upN_same]
            · rw [upN_ne _ _ hjo, upN_ne _ _ hjo]
              exact hs j hj)
          rw [u.1 96 (by omega), show gI (sI (sI M 49 (o i) s) 48 2 (gI M 48 2 - s)) 48 2 = gI M 48 2 - s by rw [gI_sI, if_pos ⟨rfl, rfl⟩]] at a4 a5
          exact ⟨M', a1, u.trans a2, by rw [a3, sI_ne _ _ (by omega), sI_ne _ _ (by omega)], a4, a5⟩
      · rw [if_neg hz, if_neg hz]
        exact skip
theorem c_dist {N : Nat} (hN : 17 < N) {nr : Nat → Int32} {o : Nat → Nat} {c : Nat} (mode line : Int32) {M : Mem} (h : Rel M) (ho : ordC M nr o c) : ∃ M', f_X1_distribute N (gR M 0 7) mode line M = some M' ∧ F49 M M' ∧ gI M' 48 2 = (fiS (gI M 96) nr o c (nP M) mode line).1 ∧ (∀ j, j < 16 → gI M' 49 j = (fiS (gI M 96) nr o c (nP M) mode line).2 j) ∧ (∀ j, j < nP M → gI M' 50 j = (fin (gI M 96) nr o c (nP M) mode line).2.2 j) := by
  have hP := h.b.P.2
  have hc := ho.2.1
  obtain ⟨M1, a1, a2, a3, a4, a5, a6⟩ := c_fill (N := N) (k := 49) (L := 16) (by decide) (by decide) (by omega) (by omega) 0 M
  have u1 : F49 M M1 := ⟨fun k hk => a2 k (by omega), a4, a5, a6⟩
  have u2 : F49 M1 (sI M1 48 2 (gI M 96 5)) := F49.sI _ (by omega)
  have u := u1.trans u2
  have h2 := h.core u.core
  obtain ⟨M3, b1, b2, b3, b4, b5⟩ := c_fa hN (nr := nr) (o := o) (c := c) mode line (nP M) N 0 (fun _ => 0) (fun _ => 0) (sI M1 48 2 (gI M 96 5)) h2 (ho.keep u) (by rw [u.v.p]; omega) (by omega) (fun j hj => by rw [sI_ne _ _ (by omega), a3, if_pos hj]) (fun j hj => by omega)
  rw [u.1 96 (by omega), show gI (sI M1 48 2 (gI M 96 5)) 48 2 = gI M 96 5 by rw [gI_sI, if_pos ⟨rfl, rfl⟩]] at b3 b4 b5
  rw [u.v.p] at b5
  have h3 := h.core (u.trans b2).core
  obtain ⟨M4, d1, d2, d3, d4, d5⟩ := c_fq (N := N) (nr := nr) (o := o) (c := c) line c N 0 _ M3 h3 (ho.keep (u.trans b2)) (by omega) (by omega) b4
  rw [(u.trans b2).1 96 (by omega), b3] at d4 d5
  rw [(u.trans b2).2.1] at d1
  rw [u.2.1] at b1
  refine ⟨M4, ?_, (u.trans b2).trans d2, d4, d5, fun j hj => by rw [d3]; exact b5 j hj⟩
  unfold f_X1_distribute f_X1_fundFromPool
  rw [b1_of a1, gd_t (st_k h.b.s), a2 (gR M 0 7) (by have := h.b.s; omega), h.b.pool, wr_eq, l3_of (show L_X1_distribute_19 N N (gR M 0 7) mode line 0 (sI M1 48 2 (gI M 96 5)) = _ from b1), l1_of (show L_X1_fundFromPool_3 N N (gR M 0 7) line 0 M3 = _ from d1)]
  rfl
/-- the set of those who get something -/
def wn (sh : Nat → Int32) : Nat → Nat
  | 0 => 0
  | n + 1 => if sh n ≤ 0 then wn sh n else wn sh n ||| 2 ^ n
theorem wn_lt (sh : Nat → Int32) : ∀ n, n ≤ 16 → wn sh n < 65536
  | 0, _ => by show 0 < 65536; omega
  | n + 1, h => by
    have := wn_lt sh n (by omega)
    show (if sh n ≤ 0 then wn sh n else wn sh n ||| 2 ^ n) < 65536
    split
    · exact this
    · exact or_lt this (by omega)
theorem wn_more {sh : Nat → Int32} {a : Nat} : ∀ d, (∀ j, a ≤ j → j < a + d → sh j = 0) → wn sh (a + d) = wn sh a
  | 0, _ => rfl
  | d + 1, h => by
    show (if sh (a + d) ≤ 0 then wn sh (a + d) else _) = _
    rw [if_pos (by rw [h (a + d) (by omega) (by omega)]; decide)]
    exact wn_more d (fun j h1 h2 => h j h1 (by omega))
theorem c_winners {N : Nat} (hN : 16 < N) {M : Mem} {sh : Nat → Int32} {n : Nat} (hn : n ≤ 16) (hs : ∀ j, j < 16 → gI M 49 j = sh j) : f_X1_winners N (nI n) M = some (nI (wn sh n), M) := by
  unfold f_X1_winners
  refine (l2_of (y := nI (wn sh n)) (m := M) ?_).trans rfl
  refine loop_fn (fun k i => L_X1_winners_4 N k (nI n) (nI (wn sh i)) (nI i) M) n _ (fun k i hi => ?_) (fun k => ?_) n N 0 (by omega) (by omega)
  · show T_X1_winners_4 N (L_X1_winners_4 N k) _ _ _ _ = L_X1_winners_4 N k _ _ _ _
    unfold T_X1_winners_4
    rw [if_neg (nI_ge hi (by omega)), gd_t (inb_nI (by omega) (by omega)), nI_clamp (by omega), hs i (by omega), nI_1]
    show _ = L_X1_winners_4 N k (nI n) (nI (if sh i ≤ 0 then wn sh i else wn sh i ||| 2 ^ i)) (nI (i + 1)) M
    by_cases hz : sh i ≤ 0
    · rw [if_pos hz, if_pos hz]
    · rw [if_neg hz, if_neg hz, or_bit (by omega)]
  · show T_X1_winners_4 N (L_X1_winners_4 N k) _ _ _ _ = _
    unfold T_X1_winners_4
    rw [if_pos (nI_le (Nat.le_refl _) (by omega))]
/-- after update the order is laid -/
theorem Upd.ord {m M : Mem} (h : Rel m) (u : Upd m M) : ordC M (fun p => zI (nm (sv m) p)) (od M) (cnt (rn m) (nQ m)) := by
  obtain ⟨u1, u2, u3, u4⟩ := u
  have hQ := h.b.Q.2
  have hc := cnt_le (rn m) (nQ m)
  unfold OrdOK at u4
  rw [u1.zrn] at u4
  refine ⟨u4.1, by omega, fun i hi => ?_⟩
  obtain ⟨o1, o2, o3, o4⟩ := u4.2 i hi
  refine ⟨o4, by rw [u1.q]; exact o1, ?_⟩
  rw [(u3 _ o1).2.2.1, u1.zsv]
