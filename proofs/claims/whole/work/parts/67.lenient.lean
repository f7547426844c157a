/-! LENIENCY, DISAGREEMENT -/
theorem cmp_self {x : UInt64} (h : okN x = true) : Op.cmpValue (FP.dcmp x x) .l = 0 := by
  rw [show FP.dcmp x x = some .eq from fr_cmp h]
  rfl
def Z0 (M : Mem) (v : UInt64) (x : Int32) : Mem := sI (sD M 109 0 v) 95 0 x
theorem Z0.v (M : Mem) (v : UInt64) (x : Int32) : SV M (Z0 M v x) := ⟨sI_ne _ _ (by omega), sI_ne _ _ (by omega)⟩
theorem Z0.rel {M : Mem} (h : Rel M) (v : UInt64) (x : Int32) : Rel (Z0 M v x) := (h.core Core.sD').core (Core.sI95 (by omega))
theorem OpD.upd {fl : Mem → Option (Int32 × Mem)} {fm : Mem → Option (UInt64 × Mem)} {m M : Mem} (h : Rel m) (u : UpdE m M) {b : UInt64} (hb : okN b = true) (h1 : fl m = some (0, sD M 109 0 b)) (h2 : fm (sD M 109 0 b) = some (b, Z0 M b 0)) : OpD fl fm m :=
  ⟨0, _, b, _, h1, h2, by unfold Z0; rw [gI_sI, if_pos ⟨rfl, rfl⟩], fun _ => by unfold Z0; rw [gD_sI, gD_sD, if_pos ⟨rfl, rfl⟩]; exact cmp_self hb, Z0.rel (h.core u.core) _ _⟩
theorem OpD.updno {fl : Mem → Option (Int32 × Mem)} {fm : Mem → Option (UInt64 × Mem)} {m M : Mem} (h : Rel m) (u : UpdE m M) {v : Int32} {w : UInt64} (hv : ¬ v = 0) (h1 : fl m = some (v, M)) (h2 : fm M = some (w, sI M 95 0 v)) : OpD fl fm m :=
  ⟨v, _, w, _, h1, h2, by rw [gI_sI, if_pos ⟨rfl, rfl⟩], fun e => absurd e hv, (h.core u.core).core (Core.sI95 (by omega))⟩
theorem m_scoredOf' {N : Nat} (hN : 16 < N) {m : Mem} (h : Rel m) {r : Nat} (hr : r < 12) : f_X10_scoredOf N (nI r) m = some (nI (gv (sv m) r), m) := by
  rw [m_scoredOf hN hr]
  have e : cnt (fun p => decide (¬ gI m 98 (26 + (16 * r + p)) ≤ 0)) 16 = gv (sv m) r := cnt_congr 16 (fun p hp => by
    obtain ⟨s1, s2, _⟩ := h.sv_c hr hp
    rw [s1]
    by_cases hz : sv m r p = 0
    · rw [hz]
      rfl
    · rw [decide_eq_true hz, decide_eq_true (nI_nle (by omega) (by omega))])
  rw [e]
/-- the sums over a panel -/
def pn (m : Mem) (a : Nat) (f : Nat → Nat) : Nat → Nat := sm (fun r => if gI m 96 (11 + 4 * r) = gI m 96 (11 + 4 * a) then f r else 0)
theorem c_len {N : Nat} (hN : 12 < N) {M : Mem} (h : Rel M) (hw : RowR M (nR M)) {a : Nat} (ha : a < nR M) (x : Int32) : L_X9_leniency_38 N N (nI a) x 0 0 0 M = some (nI a, x, nI (pn M a (gv (sv M)) (nR M)), nI (pn M a (tl (sv M)) (nR M)), M) := by
  have hR := h.b.R.2
  refine loop_fn (fun n i => L_X9_leniency_38 N n (nI a) x (nI (pn M a (gv (sv M)) i)) (nI (pn M a (tl (sv M)) i)) (nI i) M) (nR M) _ (fun n i hi => ?_) (fun n => ?_) (nR M) N 0 (by omega) (by omega)
  · show T_X9_leniency_38 N (L_X9_leniency_38 N n) _ _ _ _ _ _ = L_X9_leniency_38 N n _ _ _ _ _ _
    unfold T_X9_leniency_38
    rw [gd_t (st_k h.b.s), h.b.cR, if_neg (nI_ge hi (by omega)), gd_t (st_ok h.b.s (by omega) (by omega) (show i < 12 by omega)), gd_t (st_ok h.b.s (by omega) (by omega) (show a < 12 by omega)), st_rt h.b.s (by omega) (by omega), nI_clamp (by omega), nI_clamp (by omega), show gI M (gR M 0 7 + (4 - 2)) i = gI M 96 (11 + 4 * i) from (h.b.rowR hi).1, show gI M (gR M 0 7 + (4 - 2)) a = gI M 96 (11 + 4 * a) from (h.b.rowR ha).1, nI_1, (hw i hi).1, (hw i hi).2.1, nI_add, nI_add, gd_t (inb_nI (by omega) (by omega))]
    unfold pn
    simp only [sm]
    by_cases he : gI M 96 (11 + 4 * i) = gI M 96 (11 + 4 * a)
    · rw [if_pos he, if_pos he, if_pos he]
    · rw [if_neg he, if_neg he, if_neg he]
      rfl
  · show T_X9_leniency_38 N (L_X9_leniency_38 N n) _ _ _ _ _ _ = _
    unfold T_X9_leniency_38
    rw [gd_t (st_k h.b.s), h.b.cR, if_pos (nI_le (Nat.le_refl _) (by omega))]
theorem m_len {N : Nat} (hN : 17 < N) {m : Mem} (h : Rel m) {a : Nat} (ha : a < nR m) : L_X10_leniency_48 N N (nI a) 0 0 0 0 m = some (nI a, nI (tl (sv m) a), nI (pn m a (tl (sv m)) (nR m)), nI (pn m a (gv (sv m)) (nR m)), m) := by
  have hR := h.b.R.2
  have inner : ∀ r, r < 12 → ∀ o1 x y, L_X10_leniency_85 N N (nI a) (nI o1) (nI x) (nI y) (nI r) 1 0 m = some (nI a, nI (o1 + if r = a then tl (sv m) a else 0), nI (x + tl (sv m) r), nI (y + gv (sv m) r), nI r, m) := by
    intro r hr o1 x y
    have := loop_fn (fun n i => L_X10_leniency_85 N n (nI a) (nI (o1 + if r = a then sm (sv m a) i else 0)) (nI (x + sm (sv m r) i)) (nI (y + cnt (fun k => decide (¬ sv m r k = 0)) i)) (nI r) 1 (nI i) m) 16 (nI a, nI (o1 + if r = a then tl (sv m) a else 0), nI (x + tl (sv m) r), nI (y + gv (sv m) r), nI r, m) (fun n i hi => ?_) (fun n => ?_) 16 N 0 rfl (by omega)
    · have e0 : o1 + (if r = a then sm (sv m a) 0 else 0) = o1 := by
        split <;> rfl
      simp only [e0] at this
      exact this
    · show T_X10_leniency_85 N (L_X10_leniency_85 N n) _ _ _ _ _ _ _ _ = L_X10_leniency_85 N n _ _ _ _ _ _ _ _
      unfold T_X10_leniency_85 B_X10_leniency_116
      have z : ∀ k : Nat, nI k + (0 : Int32) = nI k := fun k => nI_add k 0
      rw [if_neg (show ¬ (16 : Int32) ≤ nI i from nI_ge (b := 16) hi (by omega)), if_neg (by decide), b2_of (m_sv N h.b hr hi), b2_of (m_sv N h.b hr hi), b2_of (m_sv N h.b hr hi), b2_of (m_isScored N h.b hr hi), z, z, nI_1, nI_1, nI_add, nI_add]
      simp only [sm, cnt]
      by_cases hra : r = a
      · subst hra
        rw [if_pos rfl, if_pos rfl, if_pos rfl]
        by_cases hz : sv m r i = 0
        · rw [if_pos hz, if_pos rfl]
          simp [hz]
        · rw [if_neg hz, if_neg (by decide)]
          simp [hz, Nat.add_assoc]
      · rw [if_neg (fun e => hra ((nI_eq (by omega) (by omega)).mp e)), if_neg hra, if_neg hra, b2_of (m_isScored N h.b hr hi)]
        by_cases hz : sv m r i = 0
        · rw [if_pos hz, if_pos rfl]
          simp [hz]
        · rw [if_neg hz, if_neg (by decide)]
          simp [hz, Nat.add_assoc]
    · show T_X10_leniency_85 N (L_X10_leniency_85 N n) _ _ _ _ _ _ _ _ = _
      unfold T_X10_leniency_85
      rw [if_pos (show (16 : Int32) ≤ nI 16 by decide)]
      rfl
  have inner0 : ∀ r o1 x y, L_X10_leniency_85 N N (nI a) (nI o1) (nI x) (nI y) (nI r) 0 0 m = some (nI a, nI o1, nI x, nI y, nI r, m) := by
    intro r o1 x y
    obtain ⟨k, hk⟩ : ∃ k, N = k + 1 := ⟨N - 1, by omega⟩
    show L_X10_leniency_85 N N (nI a) (nI o1) (nI x) (nI y) (nI r) 0 0 m = _
    have : L_X10_leniency_85 N N = T_X10_leniency_85 N (L_X10_leniency_85 N k) := by
      rw [show L_X10_leniency_85 N N = L_X10_leniency_85 N (k + 1) from congrArg (L_X10_leniency_85 N) hk]
      rfl
    rw [this]
    unfold T_X10_leniency_85
    rw [if_neg (by decide), if_pos rfl]
  have hown : tl (sv m) a = sm (fun r => if r = a then tl (sv m) a else 0) (nR m) := by
    have g : ∀ n, sm (fun r => if r = a then tl (sv m) a else 0) n = if a < n then tl (sv m) a else 0 := by
      intro n
      induction n with
      | zero => rw [if_neg (by omega)]; rfl
      | succ n ih =>
        show sm _ n + (if n = a then tl (sv m) a else 0) = _
        rw [ih]
        by_cases h1 : a < n
        · rw [if_pos h1, if_neg (by omega), if_pos (by omega)]
          rfl
        · by_cases h2 : n = a
          · rw [if_neg h1, if_pos h2, if_pos (by omega), Nat.zero_add]
          · rw [if_neg h1, if_neg h2, if_neg (by omega)]
    rw [g, if_pos ha]
  have := loop_fn (fun n i => L_X10_leniency_48 N n (nI a) (nI (sm (fun r => if r = a then tl (sv m) a else 0) i)) (nI (pn m a (tl (sv m)) i)) (nI (pn m a (gv (sv m)) i)) (nI i) m) (nR m) (nI a, nI (sm (fun r => if r = a then tl (sv m) a else 0) (nR m)), nI (pn m a (tl (sv m)) (nR m)), nI (pn m a (gv (sv m)) (nR m)), m) (fun n i hi => ?_) (fun n => ?_) (nR m) N 0 (by omega) (by omega)
  · rw [← hown] at this
    exact this
  · show T_X10_leniency_48 N (L_X10_leniency_48 N n) _ _ _ _ _ _ = L_X10_leniency_48 N n _ _ _ _ _ _
    unfold T_X10_leniency_48 B_X10_leniency_80
    have q0 : ∀ k, k < 12 → f_X10_reviewer N (nI k) 0 m = some (gI m 96 (11 + 4 * k), m) := fun k hk => m_reviewer N hk (show 0 < 4 by omega) m
    rw [h.b.R.1, if_neg (nI_ge hi (by omega)), b2_of (q0 i (by omega)), b2_of (q0 a (by omega)), l6_of (inner i (by omega) _ _ _), l6_of (inner0 i _ _ _), nI_1]
    unfold pn
    simp only [sm]
    by_cases he : gI m 96 (11 + 4 * i) = gI m 96 (11 + 4 * a)
    · rw [if_pos he, if_pos he, if_pos he]
    · rw [if_neg he, if_neg he, if_neg he, if_neg (show ¬ i = a from fun e => he (by rw [e]))]
      rfl
  · show T_X10_leniency_48 N (L_X10_leniency_48 N n) _ _ _ _ _ _ = _
    unfold T_X10_leniency_48
    rw [h.b.R.1, if_pos (nI_le (Nat.le_refl _) (by omega))]
theorem op_leniency {N : Nat} (hN : 17 < N) : Op_leniency N := by
  intro m hR v
  by_cases hv : inR v (nR m) = true
  · obtain ⟨a, ha, rfl⟩ := inR_nI hv
    have hRR := hR.b.R.2
    have ha12 : a < 12 := by omega
    obtain ⟨M, e1, u, e2, e3, e4⟩ := c_update hN hR
    have hM := hR.core u.core
    have hgv := gv_le (sv M) a
    have eR := u.r
    have hwM : RowR M (nR M) := by rw [eR]; exact e2
    have haM : a < nR M := by omega
    have hpg : gv (sv M) a ≤ pn M a (gv (sv M)) (nR M) := by
      have := sm_ge (f := fun r => if gI M 96 (11 + 4 * r) = gI M 96 (11 + 4 * a) then gv (sv M) r else 0) (j := a) (nR M) haM
      rw [if_pos rfl] at this
      exact this
    have hpg' : pn M a (gv (sv M)) (nR M) ≤ 192 := by
      have := sm_le (f := fun r => if gI M 96 (11 + 4 * r) = gI M 96 (11 + 4 * a) then gv (sv M) r else 0) (c := 16) (nR M) (fun i hi => by
        have := gv_le (sv M) i
        split <;> omega)
      unfold pn
      have : 16 * nR M ≤ 192 := by omega
      omega
    have hpt' : pn M a (tl (sv M)) (nR M) ≤ 19200 := by
      have := sm_le (f := fun r => if gI M 96 (11 + 4 * r) = gI M 96 (11 + 4 * a) then tl (sv M) r else 0) (c := 1600) (nR M) (fun i hi => by
        have := tl_le hM.sN (show i < 12 by omega)
        split <;> omega)
      unfold pn
      omega
    have htl := tl_le hM.sN ha12
    by_cases hz : gv (sv M) a = 0
    · refine OpD.updno hR u (v := 2) (w := FP.dconst0) (by decide) ?_ ?_
      · unfold f_L_leniency f_X9_leniency B_X9_leniency_114
        rw [x1_of (by rw [c_checkReviewer N hR.b, if_pos hv]), b1_of e1, gd_t (inb_nI ha12 (by omega)), nI_clamp (by omega), (hwM a haM).1, l5_of (c_len (by omega) hM hwM haM _), hz, if_pos (by decide)]
        rfl
      · unfold f_X10_leniency B_X10_leniency_26
        rw [b2_of (m_isReviewer N hM.b (nI a)), eR, if_pos hv, if_neg (by decide), b2_of (m_scoredOf' (by omega) hM ha12), hz, if_pos (by decide), rs_no _ (by decide)]
    · have n1 : nI (gv (sv M) a) ≠ 0 := nI_ne0 (by omega) (by omega)
      have n2 : nI (pn M a (gv (sv M)) (nR M)) ≠ 0 := nI_ne0 (by omega) (by omega)
      obtain ⟨s1, c1, q1, d1, k1⟩ := fr_div (a := tl (sv M) a) (b := gv (sv M) a) (by omega) (by omega) (by omega)
      obtain ⟨s2, c2, q2, d2, k2⟩ := fr_div (a := pn M a (tl (sv M)) (nR M)) (b := pn M a (gv (sv M)) (nR M)) (by omega) (by omega) (by omega)
      have k3 := fr_sub ⟨s1, c1, q1, d1⟩ ⟨s2, c2, q2, d2⟩
      generalize hx : FP.dsub (FP.ddiv (FP.i2d (nI (tl (sv M) a))) (FP.i2d (nI (gv (sv M) a)))) (FP.ddiv (FP.i2d (nI (pn M a (tl (sv M)) (nR M)))) (FP.i2d (nI (pn M a (gv (sv M)) (nR M))))) = x
      have k3' : okN x = true := by rw [← hx]; exact k3
      refine OpD.upd hR u (b := x) k3' ?_ ?_
      · unfold f_L_leniency f_X9_leniency
        rw [x1_of (by rw [c_checkReviewer N hR.b, if_pos hv]), b1_of e1, gd_t (inb_nI ha12 (by omega)), nI_clamp (by omega), (hwM a haM).1, l5_of (c_len (by omega) hM hwM haM _), if_neg n1, if_neg n2, gd_t (inb_nI ha12 (by omega)), nI_clamp (by omega), (hwM a haM).2.1, gd_t (show okN (FP.ddiv _ _) = true from k1), gd_t (show okN (FP.ddiv _ _) = true from k2), hx, gd_t k3']
        rfl
      · have v0 := Z0.v M x 0
        have hY := Z0.rel hM x 0
        have hJ : Rel (sD M 109 0 x) := hM.core Core.sD'
        have vj : SV M (sD M 109 0 x) := ⟨rfl, rfl⟩
        unfold f_X10_leniency B_X10_leniency_26
        rw [b2_of (m_isReviewer N hJ.b (nI a)), vj.r, eR, if_pos hv, if_neg (by decide), b2_of (m_scoredOf' (by omega) hJ ha12), vj.zsv, if_neg (nI_nle (by omega) (by omega)), rs_ok]
        change l5 (L_X10_leniency_48 N N (nI a) 0 0 0 0 (Z0 M x 0)) _ = _
        have hml := m_len hN hY (a := a) (by rw [v0.r]; exact haM)
        have epn : ∀ f, pn (Z0 M x 0) a f = pn M a f := fun f => by unfold pn; rw [v0.1]
        rw [v0.zsv, v0.r, epn, epn] at hml
        have hsc := m_scoredOf' (N := N) (by omega) hY ha12
        rw [v0.zsv] at hsc
        rw [l5_of hml, b2_of hsc, gd_t (show okN (FP.ddiv _ _) = true from k1), gd_t (show okN (FP.ddiv _ _) = true from k2), hx, gd_t k3']
  · refine OpD.updno hR (UpdE.refl m) (v := 1) (w := FP.dconst0) (by decide) ?_ ?_
    · unfold f_L_leniency f_X9_leniency
      rw [x1_th (by rw [c_checkReviewer N hR.b, if_neg hv])]
      rfl
    · unfold f_X10_leniency B_X10_leniency_26
      rw [b2_of (m_isReviewer N hR.b v), if_neg hv, if_pos rfl, rs_no _ (by decide)]
/-- the pairs of scores of a proposal, and how far they lie apart -/
def ip (sc : Nat → Nat) (i : Nat) : Nat → Nat := sm (fun j => if sc i = 0 then 0 else if sc j = 0 then 0 else 1)
def is' (sc : Nat → Nat) (i : Nat) : Nat → Nat := sm (fun j => if sc i = 0 then 0 else if sc j = 0 then 0 else ((sc i : Int) - sc j).natAbs)
def pR (sc : Nat → Nat) : Nat → Nat := sm (fun i => ip sc i i)
def pS (sc : Nat → Nat) : Nat → Nat := sm (fun i => is' sc i i)
theorem ip_0 (sc : Nat → Nat) (i : Nat) : ∀ k, ip sc i k = if sc i = 0 then 0 else cnt (fun j => decide (¬ sc j = 0)) k
  | 0 => by
    show 0 = _
    split <;> rfl
  | k + 1 => by
    show ip sc i k + (if sc i = 0 then 0 else if sc k = 0 then 0 else 1) = _
    rw [ip_0 sc i k]
    by_cases h : sc i = 0
    · rw [if_pos h, if_pos h, if_pos h]
    · rw [if_neg h, if_neg h, if_neg h, cnt_s]
      by_cases h' : sc k = 0
      · rw [if_pos h', if_neg (by simp [h'])]
      · rw [if_neg h', if_pos (decide_eq_true h')]
theorem pR_0 (sc : Nat → Nat) : ∀ n, pR sc n = 0 ↔ cnt (fun j => decide (¬ sc j = 0)) n ≤ 1
  | 0 => ⟨fun _ => Nat.zero_le _, fun _ => rfl⟩
  | n + 1 => by
    have ih := pR_0 sc n
    show pR sc n + ip sc n n = 0 ↔ _
    rw [ip_0, cnt_s]
    by_cases h : sc n = 0
    · rw [if_pos h, if_neg (by simp [h]), Nat.add_zero, Nat.add_zero]
      exact ih
    · rw [if_neg h, if_pos (decide_eq_true h)]
      constructor
      · intro hh
        omega
      · intro hh
        have := ih.mpr (by omega)
        omega
theorem ip_le (sc : Nat → Nat) (i k : Nat) : ip sc i k ≤ k := by
  rw [ip_0]
  split
  · omega
  · exact cnt_le _ k
theorem is_le {sc : Nat → Nat} (h : ∀ r, r < 12 → sc r ≤ 100) {i : Nat} (hi : i < 12) {k : Nat} (hk : k ≤ 12) : is' sc i k ≤ 100 * k := sm_le k (fun j hj => by
  have h1 := h i hi
  have h2 := h j (by omega)
  split
  · omega
  · split <;> omega)
theorem pR_le (sc : Nat → Nat) : ∀ n, n ≤ 12 → pR sc n ≤ 12 * n := fun n hn => sm_le n (fun i hi => by have := ip_le sc i i; omega)
theorem pS_le {sc : Nat → Nat} (h : ∀ r, r < 12 → sc r ≤ 100) : ∀ n, n ≤ 12 → pS sc n ≤ 1200 * n := fun n hn => sm_le n (fun i hi => by have := is_le h (show i < 12 by omega) (k := i) (by omega); omega)
theorem c_dis {N : Nat} (hN : 13 < N) {m : Mem} (h : Rel m) {p : Nat} (hp : p < 16) : L_X9_disagreement_12 N N (nI p) 0 0 0 m = some (nI (pR (fun r => sv m r p) (nR m)), nI (pS (fun r => sv m r p) (nR m)), m) := by
  have hR := h.b.R.2
  have hs : ∀ r, r < 12 → sv m r p ≤ 100 := fun r hr => h.sN r hr p hp
  have inner : ∀ i, i < 12 → ∀ x y, L_X9_disagreement_27 N N (nI p) (nI x) (nI y) (nI i) 0 m = some (nI p, nI (x + ip (fun r => sv m r p) i i), nI (y + is' (fun r => sv m r p) i i), nI i, m) := by
    intro i hi x y
    refine loop_fn (fun n k => L_X9_disagreement_27 N n (nI p) (nI (x + ip (fun r => sv m r p) i k)) (nI (y + is' (fun r => sv m r p) i k)) (nI i) (nI k) m) i _ (fun n k hk => ?_) (fun n => ?_) i N 0 (by omega) (by omega)
    · show T_X9_disagreement_27 N (L_X9_disagreement_27 N n) _ _ _ _ _ _ = L_X9_disagreement_27 N n _ _ _ _ _ _
      unfold T_X9_disagreement_27
      rw [if_neg (nI_ge hk (by omega)), b2_of (c_hasSc N h hi hp), nI_1, nI_1]
      unfold ip is'
      simp only [sm]
      by_cases hz : sv m i p = 0
      · rw [if_pos hz, if_pos rfl, if_pos hz, if_pos hz]
        rfl
      · rw [if_neg hz, if_neg (by decide), b2_of (c_hasSc N h (by omega) hp), if_neg hz, if_neg hz]
        by_cases hz' : sv m k p = 0
        · rw [if_pos hz', if_pos rfl, if_pos hz', if_pos hz']
          rfl
        · have b1 := hs i hi
          have b2 := hs k (by omega)
          rw [if_neg hz', if_neg (by decide), if_neg hz', if_neg hz', b2_of (c_sv N h hi hp hz), b2_of (c_sv N h (by omega) hp hz'), show nI (sv m i p) - nI (sv m k p) = zI ((sv m i p : Int) - sv m k p) by rw [← zI_nI, ← zI_nI, zI_sub]]
          have := (zabs (x := (sv m i p : Int) - sv m k p) (by unfold zB; omega) id).1
          simp only [id] at this
          rw [this, nI_add, Nat.add_assoc, Nat.add_assoc]
    · show T_X9_disagreement_27 N (L_X9_disagreement_27 N n) _ _ _ _ _ _ = _
      unfold T_X9_disagreement_27
      rw [if_pos (nI_le (Nat.le_refl _) (by omega))]
  refine loop_fn (fun n i => L_X9_disagreement_12 N n (nI p) (nI (pR (fun r => sv m r p) i)) (nI (pS (fun r => sv m r p) i)) (nI i) m) (nR m) _ (fun n i hi => ?_) (fun n => ?_) (nR m) N 0 (by omega) (by omega)
  · show T_X9_disagreement_12 N (L_X9_disagreement_12 N n) _ _ _ _ _ = L_X9_disagreement_12 N n _ _ _ _ _
    unfold T_X9_disagreement_12
    rw [gd_t (st_k h.b.s), h.b.cR, if_neg (nI_ge hi (by omega)), l5_of (inner i (by omega) _ _), nI_1]
    rfl
  · show T_X9_disagreement_12 N (L_X9_disagreement_12 N n) _ _ _ _ _ = _
    unfold T_X9_disagreement_12
    rw [gd_t (st_k h.b.s), h.b.cR, if_pos (nI_le (Nat.le_refl _) (by omega))]
theorem m_dis {N : Nat} (hN : 13 < N) {m : Mem} (h : Rel m) {p : Nat} (hp : p < 16) : L_X10_disagreement_46 N N (nI p) 0 0 0 m = some (nI (pS (fun r => sv m r p) (nR m)), nI (pR (fun r => sv m r p) (nR m)), m) := by
  have hR := h.b.R.2
  have hs : ∀ r, r < 12 → sv m r p ≤ 100 := fun r hr => h.sN r hr p hp
  have inner : ∀ i, i < 12 → ∀ x y, L_X10_disagreement_60 N N (nI p) (nI y) (nI x) (nI i) 0 m = some (nI p, nI (y + is' (fun r => sv m r p) i i), nI (x + ip (fun r => sv m r p) i i), nI i, m) := by
    intro i hi x y
    refine loop_fn (fun n k => L_X10_disagreement_60 N n (nI p) (nI (y + is' (fun r => sv m r p) i k)) (nI (x + ip (fun r => sv m r p) i k)) (nI i) (nI k) m) i _ (fun n k hk => ?_) (fun n => ?_) i N 0 (by omega) (by omega)
    · show T_X10_disagreement_60 N (L_X10_disagreement_60 N n) _ _ _ _ _ _ = L_X10_disagreement_60 N n _ _ _ _ _ _
      unfold T_X10_disagreement_60 B_X10_disagreement_118
      rw [if_neg (nI_ge hk (by omega)), b2_of (m_isScored N h.b hi hp), nI_1, nI_1]
      unfold ip is'
      simp only [sm]
      by_cases hz : sv m i p = 0
      · rw [if_pos hz, if_pos rfl, if_pos hz, if_pos hz]
        rfl
      · rw [if_neg hz, if_neg (by decide), b2_of (m_isScored N h.b (by omega) hp), if_neg hz, if_neg hz]
        by_cases hz' : sv m k p = 0
        · rw [if_pos hz', if_pos rfl, if_pos hz', if_pos hz']
          rfl
        · have b1 := hs i hi
          have b2 := hs k (by omega)
          rw [if_neg hz', if_neg (by decide), if_neg hz', if_neg hz', b2_of (m_sv N h.b hi hp), b2_of (m_sv N h.b (by omega) hp), show nI (sv m i p) - nI (sv m k p) = zI ((sv m i p : Int) - sv m k p) by rw [← zI_nI, ← zI_nI, zI_sub]]
          have := (zabs (x := (sv m i p : Int) - sv m k p) (by unfold zB; omega) (fun z => L_X10_disagreement_60 N n (nI p) (nI (y + sm (fun j => if sv m i p = 0 then 0 else if sv m j p = 0 then 0 else ((sv m i p : Int) - sv m j p).natAbs) k) + z) (nI (x + sm (fun j => if sv m i p = 0 then 0 else if sv m j p = 0 then 0 else 1) k + 1)) (nI i) (nI (k + 1)) m)).2
          rw [this, nI_add, Nat.add_assoc, Nat.add_assoc]
    · show T_X10_disagreement_60 N (L_X10_disagreement_60 N n) _ _ _ _ _ _ = _
      unfold T_X10_disagreement_60
      rw [if_pos (nI_le (Nat.le_refl _) (by omega))]
  refine loop_fn (fun n i => L_X10_disagreement_46 N n (nI p) (nI (pS (fun r => sv m r p) i)) (nI (pR (fun r => sv m r p) i)) (nI i) m) (nR m) _ (fun n i hi => ?_) (fun n => ?_) (nR m) N 0 (by omega) (by omega)
  · show T_X10_disagreement_46 N (L_X10_disagreement_46 N n) _ _ _ _ _ = L_X10_disagreement_46 N n _ _ _ _ _
    unfold T_X10_disagreement_46
    rw [h.b.R.1, if_neg (nI_ge hi (by omega)), l5_of (inner i (by omega) _ _), nI_1]
    rfl
  · show T_X10_disagreement_46 N (L_X10_disagreement_46 N n) _ _ _ _ _ = _
    unfold T_X10_disagreement_46
    rw [h.b.R.1, if_pos (nI_le (Nat.le_refl _) (by omega))]
theorem op_disagreement {N : Nat} (hN : 17 < N) : Op_disagreement N := by
  intro m hR v
  by_cases hv : inR v (nQ m) = true
  · obtain ⟨p, hp, rfl⟩ := inR_nI hv
    have hQQ := hR.b.Q.2
    have hRR := hR.b.R.2
    have hp16 : p < 16 := by omega
    have hs : ∀ r, r < 12 → sv m r p ≤ 100 := fun r hr => hR.sN r hr p hp16
    have hcd := c_dis (N := N) (by omega) hR hp16
    have hz0 := pR_0 (fun r => sv m r p) (nR m)
    have hle := pR_le (fun r => sv m r p) (nR m) hRR
    have hle' := pS_le hs (nR m) hRR
    have hcl := cnt_le (fun r => decide (¬ sv m r p = 0)) (nR m)
    by_cases hz : pR (fun r => sv m r p) (nR m) = 0
    · refine OpD.updno hR (UpdE.refl m) (v := 2) (w := FP.dconst0) (by decide) ?_ ?_
      · unfold f_L_disagreement f_X9_disagreement
        rw [x1_of (by rw [c_checkProposal N hR.b, if_pos hv]), l3_of hcd, hz, if_pos (by decide)]
        rfl
      · unfold f_X10_disagreement B_X10_disagreement_27
        rw [b2_of (m_isProposal N hR.b (nI p)), if_pos hv, if_neg (by decide), b2_of (m_scoresOf (by omega) hR.b hp16), if_pos (show nI (cnt (fun r => decide (¬ sv m r p = 0)) (nR m)) ≤ (1 : Int32) from nI_le (b := 1) (hz0.mp hz) (by omega)), rs_no _ (by decide)]
    · obtain ⟨s1, c1, q1, d1, k1⟩ := fr_div (a := pS (fun r => sv m r p) (nR m)) (b := pR (fun r => sv m r p) (nR m)) (by omega) (by omega) (by omega)
      generalize hx : FP.ddiv (FP.i2d (nI (pS (fun r => sv m r p) (nR m)))) (FP.i2d (nI (pR (fun r => sv m r p) (nR m)))) = x
      have k1' : okN x = true := by rw [← hx]; exact k1
      refine OpD.upd hR (UpdE.refl m) (b := x) k1' ?_ ?_
      · unfold f_L_disagreement f_X9_disagreement
        rw [x1_of (by rw [c_checkProposal N hR.b, if_pos hv]), l3_of hcd, if_neg (nI_ne0 (by omega) (by omega)), hx, gd_t k1']
        rfl
      · have v0 := Z0.v m x 0
        have hY := Z0.rel hR x 0
        have hJ : Rel (sD m 109 0 x) := hR.core Core.sD'
        have vj : SV m (sD m 109 0 x) := ⟨rfl, rfl⟩
        have hsc := m_scoresOf (N := N) (by omega) hJ.b hp16
        rw [vj.zsv, vj.r] at hsc
        have hmd := m_dis (N := N) (by omega) hY hp16
        rw [v0.zsv, v0.r] at hmd
        unfold f_X10_disagreement B_X10_disagreement_27
        rw [b2_of (m_isProposal N hJ.b (nI p)), vj.q, if_pos hv, if_neg (by decide), b2_of hsc, if_neg (show ¬ nI (cnt (fun r => decide (¬ sv m r p = 0)) (nR m)) ≤ (1 : Int32) from nI_ge (a := 1) (Nat.lt_of_not_le (fun e => hz (hz0.mpr e))) (by omega)), rs_ok]
        change l3 (L_X10_disagreement_46 N N (nI p) 0 0 0 (Z0 m x 0)) _ = _
        rw [l3_of hmd, hx, gd_t k1']
  · refine OpD.updno hR (UpdE.refl m) (v := 1) (w := FP.dconst0) (by decide) ?_ ?_
    · unfold f_L_disagreement f_X9_disagreement
      rw [x1_th (by rw [c_checkProposal N hR.b, if_neg hv])]
      rfl
    · unfold f_X10_disagreement B_X10_disagreement_27
      rw [b2_of (m_isProposal N hR.b v), if_neg hv, if_pos rfl, rs_no _ (by decide)]
