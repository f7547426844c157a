/-! LOADOF, REVIEWEROF, MATCHSUM, COUNT -/
theorem rs_ok {β : Type} (m : Mem) (A B : Mem → Option β) : wr (sI m 95 0 0) (fun m' => if gI m' 95 0 ≤ 0 then A m' else B m') = A (sI m 95 0 0) := by
  rw [wr_eq]
  exact if_pos (show (0 : Int32) ≤ 0 by decide)
theorem rs_no {β : Type} (m : Mem) {v : Int32} (hv : ¬ v ≤ 0) (A B : Mem → Option β) : wr (sI m 95 0 v) (fun m' => if gI m' 95 0 ≤ 0 then A m' else B m') = B (sI m 95 0 v) := by
  rw [wr_eq]
  exact if_neg hv
theorem Rel.rv {m : Mem} (h : Rel m) {r p : Nat} (hr : r < 12) (hp : p < 16) : (vN (gI m 98 (14 + r))).testBit p = decide (¬ gI m 4 (16 * r + p) = 0) := by
  have h1 := ((h.st.2.2.2.2.2.2.2 r hr p hp).1).1
  by_cases hc : gI m 4 (16 * r + p) = 0
  · rw [decide_eq_false (by simp [hc])]
    cases hb : (vN (gI m 98 (14 + r))).testBit p
    · rfl
    · exact absurd hc (h1.mp hb)
  · rw [decide_eq_true hc]
    exact h1.mpr hc
theorem Rel.sc0 {m : Mem} (h : Rel m) {r p : Nat} (hr : r < 12) (hp : p < 16) (hz : nR m ≤ r ∨ nQ m ≤ p) : gI m 4 (16 * r + p) = 0 := (h.st.2.2.2.2.2.2.2 r hr p hp).2 hz
theorem Rel.scv {m : Mem} (h : Rel m) {r p : Nat} (hr : r < 12) (hp : p < 16) : gI m 98 (26 + (16 * r + p)) = (if 0 < gI m 4 (16 * r + p) then gI m 4 (16 * r + p) else 0) := ((h.st.2.2.2.2.2.2.2 r hr p hp).1).2.1
theorem Rel.scb {m : Mem} (h : Rel m) {r p : Nat} (hr : r < 12) (hp : p < 16) : -1 ≤ (gI m 4 (16 * r + p)).toInt ∧ (gI m 4 (16 * r + p)).toInt ≤ 100 := ((h.st.2.2.2.2.2.2.2 r hr p hp).1).2.2
theorem m_reviewsBy {N : Nat} (hN : 16 < N) {m : Mem} (h : RelB m) {r : Nat} (hr : r < 12) : f_X10_reviewsBy N (nI r) m = some (nI (cnt (vN (gI m 98 (14 + r))).testBit 16), m) := by
  unfold f_X10_reviewsBy
  rw [show (14 : Int32) + nI r = nI (14 + r) from nI_add 14 r, gd_t (inb_nI (by omega) (by omega)), nI_clamp (by omega), b2_of (m_bits' hN (h.2.2.2.1 _ (by omega)) (h.2.2.2.2 r hr).2 m)]
theorem Rel.cntR {m : Mem} (h : Rel m) {r : Nat} (hr : r < 12) : cnt (fun p => decide (¬ gI m 4 (16 * r + p) = 0)) 16 = cnt (vN (gI m 98 (14 + r))).testBit 16 := cnt_congr 16 (fun p hp => (h.rv hr hp).symm)
theorem Rel.cntP {m : Mem} (h : Rel m) {p : Nat} (hp : p < 16) : cnt (fun r => decide (¬ gI m 4 (16 * r + p) = 0)) 12 = cnt (fun r => (vN (gI m 98 (14 + r))).testBit p) (nR m) := by
  have hR := h.b.R.2
  obtain ⟨d, hd⟩ : ∃ d, 12 = nR m + d := ⟨12 - nR m, by omega⟩
  rw [hd, cnt_more d (fun i h1 h2 => by rw [h.sc0 (by omega) hp (Or.inl h1)]; rfl)]
  exact cnt_congr _ (fun r hr => (h.rv (by omega) hp).symm)
theorem op_loadOf {N : Nat} (hN : 16 < N) : Op_loadOf N := by
  intro m hR a
  by_cases ha : inR a (nR m) = true
  · obtain ⟨r, hr, rfl⟩ := inR_nI ha
    have hRR := hR.b.R.2
    refine OpI.read hR (b := nI (cnt (vN (gI m 98 (14 + r))).testBit 16)) ?_ ?_
    · unfold f_L_loadOf f_X9_loadOf
      rw [x1_of (by rw [c_checkReviewer N hR.b, if_pos ha]), b2_of (c_revR hN (by omega) m), hR.cntR (by omega)]
      rfl
    · generalize (nI (cnt (vN (gI m 98 (14 + r))).testBit 16)).toInt64 = v
      have hR1 : Rel (sJ m 108 0 v) := hR.core Core.sJ'
      have hR2 : Rel (sI (sJ m 108 0 v) 95 0 0) := hR1.core (Core.sI95 (by omega))
      unfold f_X10_loadOf B_X10_loadOf_14
      rw [b2_of (m_isReviewer N hR1.b _), if_pos (show inR (nI r) (nR (sJ m 108 0 v)) = true from ha), if_neg (by decide), rs_ok, b2_of (m_reviewsBy hN hR2.b (by omega))]
      rfl
  · refine OpI.no hR (v := 1) (w := 0) (by decide) ?_ ?_ (Or.inl rfl)
    · unfold f_L_loadOf f_X9_loadOf
      rw [x1_th (by rw [c_checkReviewer N hR.b, if_neg ha])]
      rfl
    · unfold f_X10_loadOf B_X10_loadOf_14
      rw [b2_of (m_isReviewer N hR.b _), if_neg ha, if_pos rfl, rs_no _ (by decide)]
/-- a sum over the numbers below n -/
def sm (f : Nat → Nat) : Nat → Nat
  | 0 => 0
  | n + 1 => sm f n + f n
theorem sm_congr {f g : Nat → Nat} : ∀ n, (∀ i, i < n → f i = g i) → sm f n = sm g n
  | 0, _ => rfl
  | n + 1, h => by
    show sm f n + f n = sm g n + g n
    rw [sm_congr n (fun i hi => h i (by omega)), h n (by omega)]
theorem sm_more {f : Nat → Nat} {a : Nat} : ∀ d, (∀ i, a ≤ i → i < a + d → f i = 0) → sm f (a + d) = sm f a
  | 0, _ => rfl
  | d + 1, h => by
    show sm f (a + d) + f (a + d) = _
    rw [sm_more d (fun i h1 h2 => h i h1 (by omega)), h (a + d) (by omega) (by omega)]
    rfl
theorem cnt_add (P : Nat → Bool) (a : Nat) : ∀ b, cnt P (a + b) = cnt P a + cnt (fun i => P (a + i)) b
  | 0 => rfl
  | b + 1 => by
    show cnt P (a + b) + (if P (a + b) then 1 else 0) = cnt P a + (cnt (fun i => P (a + i)) b + (if P (a + b) then 1 else 0))
    rw [cnt_add P a b]
    omega
theorem cnt_rows (P : Nat → Bool) : ∀ n, cnt P (16 * n) = sm (fun r => cnt (fun p => P (16 * r + p)) 16) n
  | 0 => rfl
  | n + 1 => by
    show cnt P (16 * n + 16) = sm _ n + cnt (fun p => P (16 * n + p)) 16
    rw [cnt_add, cnt_rows P n]
theorem c_countReviews {N : Nat} (hN : 192 < N) (m : Mem) : f_X7_countReviews N m = some (nI (cnt (fun i => decide (¬ gI m 4 i = 0)) 192), m) := by
  unfold f_X7_countReviews
  refine (l2_of (y := nI (cnt (fun i => decide (¬ gI m 4 i = 0)) 192)) (m := m) ?_).trans rfl
  refine loop_fn (fun n i => L_X7_countReviews_13 N n (nI (cnt (fun i => decide (¬ gI m 4 i = 0)) i)) 4 192 (nI i) m) 192 _ (fun n i hi => ?_) (fun n => ?_) 192 N 0 rfl hN
  · show T_X7_countReviews_13 N (L_X7_countReviews_13 N n) _ _ _ _ _ = L_X7_countReviews_13 N n _ _ _ _ _
    unfold T_X7_countReviews_13
    rw [if_neg (show ¬ (192 : Int32) ≤ nI i from nI_ge (b := 192) hi (by omega)), gd_t (show okA 12 4 (nI i) = true from by unfold okA; rw [show inb (nI i) (ln 4) = true from inb_nI (n := 192) hi (by omega)]; rfl), nI_clamp (by omega), nI_1, nI_1]
    simp only [cnt]
    by_cases h : gI m 4 i = 0
    · simp [h]
    · simp [h]
  · show T_X7_countReviews_13 N (L_X7_countReviews_13 N n) _ _ _ _ _ = _
    unfold T_X7_countReviews_13
    rw [if_pos (show (192 : Int32) ≤ nI 192 by decide)]
theorem c_countScores {N : Nat} (hN : 192 < N) (m : Mem) : f_X7_countScores N m = some (nI (cnt (fun i => decide (¬ gI m 4 i ≤ 0)) 192), m) := by
  unfold f_X7_countScores
  refine (l2_of (y := nI (cnt (fun i => decide (¬ gI m 4 i ≤ 0)) 192)) (m := m) ?_).trans rfl
  refine loop_fn (fun n i => L_X7_countScores_13 N n (nI (cnt (fun i => decide (¬ gI m 4 i ≤ 0)) i)) 4 192 (nI i) m) 192 _ (fun n i hi => ?_) (fun n => ?_) 192 N 0 rfl hN
  · show T_X7_countScores_13 N (L_X7_countScores_13 N n) _ _ _ _ _ = L_X7_countScores_13 N n _ _ _ _ _
    unfold T_X7_countScores_13
    rw [if_neg (show ¬ (192 : Int32) ≤ nI i from nI_ge (b := 192) hi (by omega)), gd_t (show okA 12 4 (nI i) = true from by unfold okA; rw [show inb (nI i) (ln 4) = true from inb_nI (n := 192) hi (by omega)]; rfl), nI_clamp (by omega), nI_1, nI_1]
    simp only [cnt]
    by_cases h : gI m 4 i ≤ 0
    · rw [if_pos h, if_neg (by simp [h])]
      rfl
    · rw [if_neg h, if_pos (by simp [h])]
  · show T_X7_countScores_13 N (L_X7_countScores_13 N n) _ _ _ _ _ = _
    unfold T_X7_countScores_13
    rw [if_pos (show (192 : Int32) ≤ nI 192 by decide)]
theorem c_countDeclared {N : Nat} (hN : 12 < N) (m : Mem) (h : ∀ r, r < 12 → 0 ≤ (gI m 5 r).toInt ∧ vN (gI m 5 r) < 65536) : f_X7_countDeclared N m = some (nI (sm (fun r => cnt (vN (gI m 5 r)).testBit 16) 12), m) := by
  unfold f_X7_countDeclared
  refine (l2_of (y := nI (sm (fun r => cnt (vN (gI m 5 r)).testBit 16) 12)) (m := m) ?_).trans rfl
  refine loop_fn (fun n i => L_X7_countDeclared_13 N n (nI (sm (fun r => cnt (vN (gI m 5 r)).testBit 16) i)) 5 12 (nI i) m) 12 _ (fun n i hi => ?_) (fun n => ?_) 12 N 0 rfl hN
  · show T_X7_countDeclared_13 N (L_X7_countDeclared_13 N n) _ _ _ _ _ = L_X7_countDeclared_13 N n _ _ _ _ _
    unfold T_X7_countDeclared_13
    rw [if_neg (show ¬ (12 : Int32) ≤ nI i from nI_ge (b := 12) hi (by omega)), gd_t (show okA 12 5 (nI i) = true from by unfold okA; rw [show inb (nI i) (ln 5) = true from inb_nI (n := 12) hi (by omega)]; rfl), nI_clamp (by omega), b2_of (c_bitCount' N (h i hi).1 (h i hi).2 m), nI_1, nI_add]
    rfl
  · show T_X7_countDeclared_13 N (L_X7_countDeclared_13 N n) _ _ _ _ _ = _
    unfold T_X7_countDeclared_13
    rw [if_pos (show (12 : Int32) ≤ nI 12 by decide)]
theorem m_scoredOf {N : Nat} (hN : 16 < N) {r : Nat} (hr : r < 12) (m : Mem) : f_X10_scoredOf N (nI r) m = some (nI (cnt (fun p => decide (¬ gI m 98 (26 + (16 * r + p)) ≤ 0)) 16), m) := by
  unfold f_X10_scoredOf
  refine (l2_of (y := nI (cnt (fun p => decide (¬ gI m 98 (26 + (16 * r + p)) ≤ 0)) 16)) (m := m) ?_).trans rfl
  refine loop_fn (fun n i => L_X10_scoredOf_4 N n (nI r) (nI (cnt (fun p => decide (¬ gI m 98 (26 + (16 * r + p)) ≤ 0)) i)) (nI i) m) 16 _ (fun n i hi => ?_) (fun n => ?_) 16 N 0 rfl hN
  · show T_X10_scoredOf_4 N (L_X10_scoredOf_4 N n) _ _ _ _ = L_X10_scoredOf_4 N n _ _ _ _
    unfold T_X10_scoredOf_4
    rw [if_neg (show ¬ (16 : Int32) ≤ nI i from nI_ge (b := 16) hi (by omega)), b2_of (m_score N hr hi m), nI_1, nI_1]
    simp only [cnt]
    by_cases h : gI m 98 (26 + (16 * r + i)) ≤ 0
    · rw [if_pos h, if_neg (by simp [h]), show (0 : Int32) = nI 0 from rfl, nI_add]
    · rw [if_neg h, if_pos (by simp [h])]
  · show T_X10_scoredOf_4 N (L_X10_scoredOf_4 N n) _ _ _ _ = _
    unfold T_X10_scoredOf_4
    rw [if_pos (show (16 : Int32) ≤ nI 16 by decide)]
theorem Rel.sc_pos {m : Mem} (h : Rel m) {r p : Nat} (hr : r < 12) (hp : p < 16) : (gI m 98 (26 + (16 * r + p)) ≤ 0) = (gI m 4 (16 * r + p) ≤ 0) := by
  rw [h.scv hr hp]
  by_cases hc : 0 < gI m 4 (16 * r + p)
  · rw [if_pos hc]
  · rw [if_neg hc]
    apply propext
    constructor
    · intro _
      rw [Int32.lt_iff_toInt_lt] at hc
      rw [Int32.le_iff_toInt_le]
      simp at hc ⊢
      omega
    · intro _
      decide
theorem m_count_loop {N : Nat} (hN : 16 < N) {m : Mem} (h : RelB m) (k : Nat) (hk : k = 3 ∨ k = 4 ∨ k = 5) (f : Nat → Nat)
    (hf : ∀ r, r < 12 → f r = if k = 3 then cnt (vN (gI m 98 (14 + r))).testBit 16 else if k = 4 then cnt (fun p => decide (¬ gI m 98 (26 + (16 * r + p)) ≤ 0)) 16 else cnt (vN (gI m 98 (2 + r))).testBit 16) :
    L_X10_count_60 N N (nI k) 0 0 m = some (nI (sm f (nR m)), m) := by
  have hR := h.R.2
  refine loop_fn (fun n i => L_X10_count_60 N n (nI k) (nI (sm f i)) (nI i) m) (nR m) _ (fun n i hi => ?_) (fun n => ?_) (nR m) N 0 (by omega) (by omega)
  · show T_X10_count_60 N (L_X10_count_60 N n) _ _ _ _ = L_X10_count_60 N n _ _ _ _
    unfold T_X10_count_60
    have hfi := hf i (by omega)
    rw [h.R.1, if_neg (nI_ge hi (by omega)), nI_1]
    rcases hk with rfl | rfl | rfl
    · rw [if_pos (show nI 3 = 3 from rfl), b2_of (m_reviewsBy hN h (by omega)), nI_add]
      rw [if_pos rfl] at hfi
      rw [← hfi]
      rfl
    · rw [if_neg (by decide), if_pos (show nI 4 = 4 from rfl), b2_of (m_scoredOf hN (by omega) m), nI_add]
      rw [if_neg (by decide), if_pos rfl] at hfi
      rw [← hfi]
      rfl
    · rw [if_neg (by decide), if_neg (by decide), show (2 : Int32) + nI i = nI (2 + i) from nI_add 2 i, gd_t (inb_nI (by omega) (by omega)), nI_clamp (by omega), b2_of (m_bits' hN (h.2.2.2.1 _ (by omega)) (h.2.2.2.2 i (by omega)).1 m), nI_add]
      rw [if_neg (by decide), if_neg (by decide)] at hfi
      rw [← hfi]
      rfl
  · show T_X10_count_60 N (L_X10_count_60 N n) _ _ _ _ = _
    unfold T_X10_count_60
    rw [h.R.1, if_pos (nI_le (Nat.le_refl _) (by omega))]
theorem c_count (N : Nat) {m : Mem} (h : RelB m) (v : Int32) : f_X9_count N v m = (if v = 0 then some (.inl (nI (nP m)), m) else if v = 1 then some (.inl (nI (nR m)), m) else if v = 2 then some (.inl (nI (nQ m)), m) else if v = 3 then b2 (f_X7_countReviews N  m) (fun r_7 m_7 => some (.inl r_7, m_7)) else if v = 4 then b2 (f_X7_countScores N  m) (fun r_9 m_9 => some (.inl r_9, m_9)) else if v = 5 then b2 (f_X7_countDeclared N  m) (fun r_11 m_11 => some (.inl r_11, m_11)) else if v = 6 then b2 (f_J6_bitCount_0f7a4 N (gI m 3 2) m) (fun r_13 m_13 => some (.inl r_13, m_13)) else some (.inr 1, m)) := by
  unfold f_X9_count
  rw [gd_t (st_k h.s), gd_t (st_k h.s), gd_t (st_k h.s), h.cP, h.cR, h.cQ]
def cntV (m : Mem) (k : Nat) : Nat := if k = 0 then nP m else if k = 1 then nR m else if k = 2 then nQ m else if k = 3 then sm (fun r => cnt (vN (gI m 98 (14 + r))).testBit 16) (nR m) else if k = 4 then sm (fun r => cnt (fun p => decide (¬ gI m 98 (26 + (16 * r + p)) ≤ 0)) 16) (nR m) else if k = 5 then sm (fun r => cnt (vN (gI m 98 (2 + r))).testBit 16) (nR m) else cnt (vN (gI m 98 1)).testBit 16
theorem Rel.cnt3 {m : Mem} (h : Rel m) : cnt (fun i => decide (¬ gI m 4 i = 0)) 192 = sm (fun r => cnt (vN (gI m 98 (14 + r))).testBit 16) (nR m) := by
  have hR := h.b.R.2
  rw [show 192 = 16 * 12 from rfl, cnt_rows]
  obtain ⟨d, hd⟩ : ∃ d, 12 = nR m + d := ⟨12 - nR m, by omega⟩
  rw [hd, sm_more d (fun i h1 h2 => cnt_zero 16 (fun p hp => by rw [h.sc0 (by omega) hp (Or.inl h1)]; rfl))]
  exact sm_congr _ (fun r hr => h.cntR (by omega))
theorem Rel.cnt4 {m : Mem} (h : Rel m) : cnt (fun i => decide (¬ gI m 4 i ≤ 0)) 192 = sm (fun r => cnt (fun p => decide (¬ gI m 98 (26 + (16 * r + p)) ≤ 0)) 16) (nR m) := by
  have hR := h.b.R.2
  rw [show 192 = 16 * 12 from rfl, cnt_rows]
  obtain ⟨d, hd⟩ : ∃ d, 12 = nR m + d := ⟨12 - nR m, by omega⟩
  rw [hd, sm_more d (fun i h1 h2 => cnt_zero 16 (fun p hp => by rw [h.sc0 (by omega) hp (Or.inl h1)]; rfl))]
  refine sm_congr _ (fun r hr => cnt_congr _ (fun p hp => ?_))
  have e := h.sc_pos (show r < 12 by omega) hp
  by_cases hc : gI m 4 (16 * r + p) ≤ 0
  · rw [decide_eq_false (by simp [hc]), decide_eq_false (by rw [e]; simp [hc])]
  · rw [decide_eq_true hc, decide_eq_true (by rw [e]; exact hc)]
theorem Rel.cnt5 {m : Mem} (h : Rel m) : sm (fun r => cnt (vN (gI m 5 r)).testBit 16) 12 = sm (fun r => cnt (vN (gI m 98 (2 + r))).testBit 16) (nR m) := by
  have hR := h.b.R.2
  obtain ⟨d, hd⟩ : ∃ d, 12 = nR m + d := ⟨12 - nR m, by omega⟩
  rw [hd, sm_more d (fun i h1 h2 => by rw [h.de (by omega), (h.st.2.2.2.2.2.1 i (by omega)).2.2 h1]; exact cnt_zero 16 (fun p _ => Nat.zero_testBit p))]
  exact sm_congr _ (fun r hr => by rw [h.de (by omega)])
theorem Rel.gr {m : Mem} (h : Rel m) : gI m 3 2 = gI m 98 1 ∧ vN (gI m 98 1) < 65536 := ⟨h.st.2.2.2.1, h.st.2.2.2.2.1⟩
theorem op_count {N : Nat} (hN : 192 < N) : Op_count N := by
  intro m hR a
  have e6 : (nI 7 - 1 : Int32) = 6 := by decide
  by_cases ha : inR a 7 = true
  · obtain ⟨k, hk, rfl⟩ := inR_nI ha
    refine OpI.read hR (b := nI (cntV m k)) ?_ ?_
    · unfold f_L_count
      have hc : f_X9_count N (nI k) m = some (.inl (nI (cntV m k)), m) := by
        rw [c_count N hR.b]
        have : k = 0 ∨ k = 1 ∨ k = 2 ∨ k = 3 ∨ k = 4 ∨ k = 5 ∨ k = 6 := by omega
        rcases this with rfl | rfl | rfl | rfl | rfl | rfl | rfl
        · rfl
        · rfl
        · rfl
        · rw [if_neg (by decide), if_neg (by decide), if_neg (by decide), if_pos (show nI 3 = 3 from rfl), b2_of (c_countReviews hN m), hR.cnt3]
          rfl
        · rw [if_neg (by decide), if_neg (by decide), if_neg (by decide), if_neg (by decide), if_pos (show nI 4 = 4 from rfl), b2_of (c_countScores hN m), hR.cnt4]
          rfl
        · rw [if_neg (by decide), if_neg (by decide), if_neg (by decide), if_neg (by decide), if_neg (by decide), if_pos (show nI 5 = 5 from rfl), b2_of (c_countDeclared (by omega) m (fun r hr => by rw [hR.de hr]; exact ⟨hR.b.2.2.2.1 _ (by omega), (hR.b.2.2.2.2 r hr).1⟩)), hR.cnt5]
          rfl
        · rw [if_neg (by decide), if_neg (by decide), if_neg (by decide), if_neg (by decide), if_neg (by decide), if_neg (by decide), if_pos (show nI 6 = 6 from rfl), hR.gr.1, b2_of (c_bitCount' N (hR.b.2.2.2.1 _ (by omega)) hR.gr.2 m)]
          rfl
      rw [xh_of hc]
      rfl
    · generalize (nI (cntV m k)).toInt64 = v
      have hR2 : Rel (sI (sJ m 108 0 v) 95 0 0) := (hR.core Core.sJ').core (Core.sI95 (by omega))
      unfold f_X10_count B_X10_count_16
      rw [← e6, b2_of (rng_m N (by omega) _), if_pos ha, if_neg (by decide), rs_ok]
      have : k = 0 ∨ k = 1 ∨ k = 2 ∨ k = 3 ∨ k = 4 ∨ k = 5 ∨ k = 6 := by omega
      rcases this with rfl | rfl | rfl | rfl | rfl | rfl | rfl
      · rw [if_neg (by decide), gd_t (by decide)]
        exact congrArg (fun x => some (x, _)) hR.b.P.1
      · rw [if_neg (by decide), gd_t (by decide)]
        exact congrArg (fun x => some (x, _)) hR.b.R.1
      · rw [if_neg (by decide), gd_t (by decide)]
        exact congrArg (fun x => some (x, _)) hR.b.Q.1
      · rw [if_pos (by decide), if_neg (by decide), l2_of (m_count_loop (by omega) hR2.b 3 (by omega) (fun r => cnt (vN (gI m 98 (14 + r))).testBit 16) (fun r hr => rfl))]
        rfl
      · rw [if_pos (by decide), if_neg (by decide), l2_of (m_count_loop (by omega) hR2.b 4 (by omega) (fun r => cnt (fun p => decide (¬ gI m 98 (26 + (16 * r + p)) ≤ 0)) 16) (fun r hr => rfl))]
        rfl
      · rw [if_pos (by decide), if_neg (by decide), l2_of (m_count_loop (by omega) hR2.b 5 (by omega) (fun r => cnt (vN (gI m 98 (2 + r))).testBit 16) (fun r hr => rfl))]
        rfl
      · rw [if_pos (by decide), if_pos (show nI 6 = nI 7 - 1 by decide), b2_of (m_bits' (by omega) (hR2.b.2.2.2.1 _ (by omega)) hR2.gr.2 _)]
        rfl
  · refine OpI.no hR (v := 1) (w := 0) (by decide) ?_ ?_ (Or.inl rfl)
    · unfold f_L_count
      have hne : ∀ k, k < 7 → ¬ a = nI k := fun k hk e => ha (by rw [e]; exact nI_inR hk (by omega))
      rw [c_count N hR.b, if_neg (show ¬ a = (0 : Int32) from hne 0 (by omega)), if_neg (show ¬ a = (1 : Int32) from hne 1 (by omega)), if_neg (show ¬ a = (2 : Int32) from hne 2 (by omega)), if_neg (show ¬ a = (3 : Int32) from hne 3 (by omega)), if_neg (show ¬ a = (4 : Int32) from hne 4 (by omega)), if_neg (show ¬ a = (5 : Int32) from hne 5 (by omega)), if_neg (show ¬ a = (6 : Int32) from hne 6 (by omega))]
      rfl
    · unfold f_X10_count B_X10_count_16
      rw [← e6, b2_of (rng_m N (by omega) _), if_neg ha, if_pos rfl, rs_no _ (by decide)]
