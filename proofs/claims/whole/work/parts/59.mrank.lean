/-! THE MODEL'S RANKING -/
theorem smZ_more {f : Nat → Int} {a : Nat} : ∀ d, (∀ i, a ≤ i → i < a + d → f i = 0) → smZ f (a + d) = smZ f a
  | 0, _ => rfl
  | d + 1, h => by
    show smZ f (a + d) + f (a + d) = _
    rw [smZ_more d (fun i h1 h2 => h i h1 (by omega)), h (a + d) (by omega) (by omega)]
    omega
theorem mn_more {f : Nat → Nat} {c a : Nat} : ∀ d, (∀ i, a ≤ i → i < a + d → f i = 0) → mn f c (a + d) = mn f c a
  | 0, _ => rfl
  | d + 1, h => by
    show (if f (a + d) = 0 then mn f c (a + d) else _) = _
    rw [if_pos (h (a + d) (by omega) (by omega)), mn_more d (fun i h1 h2 => h i h1 (by omega))]
theorem nI_64 {n : Nat} (h : n < 2 ^ 31) : (nI n).toInt64 = Int64.ofInt n := by
  rw [← zI_nI, zI_64 (zB_nat h)]
theorem m_adjust {N : Nat} (hN : 16 < N) {m : Mem} (h : Rel m) {r p : Nat} (hr : r < 12) (hp : p < 16) : f_X10_adjust N (nI r) (nI p) m = some (zI (aj (sv m) r p), m) := by
  have hs := h.sN
  have h1 : L_X10_adjust_8 N N (nI r) (nI p) 0 0 0 m = some (nI r, nI p, nI (gv (sv m) r), nI (tl (sv m) r), m) := by
    refine loop_fn (fun n i => L_X10_adjust_8 N n (nI r) (nI p) (nI (cnt (fun k => decide (¬ sv m r k = 0)) i)) (nI (sm (sv m r) i)) (nI i) m) 16 _ (fun n i hi => ?_) (fun n => ?_) 16 N 0 rfl hN
    · show T_X10_adjust_8 N (L_X10_adjust_8 N n) _ _ _ _ _ _ = L_X10_adjust_8 N n _ _ _ _ _ _
      have hsb := hs r hr i hi
      unfold T_X10_adjust_8 B_X10_adjust_31
      rw [if_neg (show ¬ (16 : Int32) ≤ nI i from nI_ge (b := 16) hi (by omega)), b2_of (m_sv N h.b hr hi), b2_of (m_sv N h.b hr hi), b2_of (m_sv N h.b hr hi), nI_1, nI_add]
      simp only [cnt, sm]
      by_cases hz : sv m r i = 0
      · rw [if_pos (by rw [hz]; decide)]
        simp [hz]
      · rw [if_neg (nI_nle (by omega) (by omega)), nI_1, if_pos (decide_eq_true hz)]
    · show T_X10_adjust_8 N (L_X10_adjust_8 N n) _ _ _ _ _ _ = _
      unfold T_X10_adjust_8
      rw [if_pos (show (16 : Int32) ≤ nI 16 by decide)]
      rfl
  have h2 : L_X10_adjust_57 N N (nI r) (nI p) (nI (gv (sv m) r)) (nI (tl (sv m) r)) 0 0 m = some (nI r, nI p, nI (gv (sv m) r), nI (tl (sv m) r), nI (dv (sv m) r), m) := by
    refine loop_fn (fun n i => L_X10_adjust_57 N n (nI r) (nI p) (nI (gv (sv m) r)) (nI (tl (sv m) r)) (nI (sm (fun k => if sv m r k = 0 then 0 else (off (sv m) r k).natAbs) i)) (nI i) m) 16 _ (fun n i hi => ?_) (fun n => ?_) 16 N 0 rfl hN
    · show T_X10_adjust_57 N (L_X10_adjust_57 N n) _ _ _ _ _ _ _ = L_X10_adjust_57 N n _ _ _ _ _ _ _
      have hsb := hs r hr i hi
      unfold T_X10_adjust_57 B_X10_adjust_90
      rw [if_neg (show ¬ (16 : Int32) ≤ nI i from nI_ge (b := 16) hi (by omega)), b2_of (m_sv N h.b hr hi), b2_of (m_sv N h.b hr hi), nI_1]
      simp only [sm]
      by_cases hz : sv m r i = 0
      · rw [if_pos (by rw [hz]; decide), if_pos (by decide), if_pos hz]
        simp
      · rw [if_neg (nI_nle (by omega) (by omega)), off_z, if_neg hz]
        have ho := off_le hs hr hi
        have := (zabs (x := off (sv m) r i) (by unfold zB; omega) (fun x => L_X10_adjust_57 N n (nI r) (nI p) (nI (gv (sv m) r)) (nI (tl (sv m) r)) (nI (sm (fun k => if sv m r k = 0 then 0 else (off (sv m) r k).natAbs) i) + x) (nI (i + 1)) m)).2
        rw [this, nI_add]
    · show T_X10_adjust_57 N (L_X10_adjust_57 N n) _ _ _ _ _ _ _ = _
      unfold T_X10_adjust_57
      rw [if_pos (show (16 : Int32) ≤ nI 16 by decide)]
      rfl
  have hd := dv_le hs hr
  have hg := gv_le (sv m) r
  have hu := nu_le hs hr hp
  have ho := off_le hs hr hp
  unfold f_X10_adjust
  rw [l5_of h1, l6_of h2, b2_of (m_sv N h.b hr hp), off_z]
  unfold aj
  by_cases h0 : dv (sv m) r = 0
  · rw [if_pos h0, h0, if_pos (by decide)]
    rfl
  · rw [if_neg h0, if_neg (nI_ne0 (by omega) (by omega)), nI_64 (by omega), nI_64 (by omega), zI_64 (by unfold zB; omega), show (20000 : Int64) = Int64.ofInt 20000 from rfl, ← Int64.ofInt_mul, ← Int64.ofInt_mul, b2_of (m_down N (by unfold zL; omega) (by omega) (by omega) m), show (50000 : Int32) = zI 50000 from rfl, zI_add]
theorem m_scoresOf' {N : Nat} (hN : 12 < N) {m : Mem} (h : Rel m) {p : Nat} (hp : p < 16) : f_X10_scoresOf N (nI p) m = some (nI (sn (sv m) p), m) := by
  have hR := h.b.R.2
  rw [m_scoresOf hN h.b hp]
  unfold sn
  obtain ⟨d, hd⟩ : ∃ d, 12 = nR m + d := ⟨12 - nR m, by omega⟩
  rw [hd, cnt_more d (fun i h1 h2 => by rw [h.sv0 (by omega) hp (Or.inl h1)]; rfl)]
theorem m_isRanked {N : Nat} (hN : 12 < N) {m : Mem} (h : Rel m) {p : Nat} (hp : p < 16) : f_X10_isRanked N (nI p) m = some (if rn m p = true then 1 else 0, m) := by
  have hs : sn (sv m) p ≤ 12 := cnt_le _ 12
  unfold f_X10_isRanked rn
  rw [b2_of (m_scoresOf' hN h hp)]
  by_cases h0 : sn (sv m) p = 0
  · rw [h0, if_pos (by decide), decide_eq_false (by omega), if_neg (by decide)]
  · rw [if_neg (nI_nle (by omega) (by omega)), decide_eq_true h0, if_pos rfl]
theorem m_normal {N : Nat} (hN : 16 < N) {m : Mem} (h : Rel m) {p : Nat} (hp : p < 16) (hr : rn m p = true) : f_X10_normal N (nI p) m = some (zI (nm (sv m) p), m) := by
  have hR := h.b.R.2
  have hsn : sn (sv m) p ≤ 12 := cnt_le _ 12
  have h0 : ¬ sn (sv m) p = 0 := by unfold rn at hr; exact decide_eq_true_iff.mp hr
  have hsz : -4440000 ≤ sz (sv m) p ∧ sz (sv m) p ≤ 4440000 := sz_le (sv m) hp (n := 12) (by omega)
  have h1 : L_X10_normal_4 N N (nI p) 0 0 m = some (nI p, zI (sz (sv m) p), m) := by
    have e : sz (sv m) p = smZ (fun r => if sv m r p = 0 then 0 else aj (sv m) r p) (nR m) := by
      unfold sz
      obtain ⟨d, hd⟩ : ∃ d, 12 = nR m + d := ⟨12 - nR m, by omega⟩
      rw [hd]
      exact smZ_more d (fun i h1 h2 => if_pos (h.sv0 (by omega) hp (Or.inl h1)))
    rw [e]
    refine loop_fn (fun n i => L_X10_normal_4 N n (nI p) (zI (smZ (fun r => if sv m r p = 0 then 0 else aj (sv m) r p) i)) (nI i) m) (nR m) _ (fun n i hi => ?_) (fun n => ?_) (nR m) N 0 (by omega) (by omega)
    · show T_X10_normal_4 N (L_X10_normal_4 N n) _ _ _ _ = L_X10_normal_4 N n _ _ _ _
      unfold T_X10_normal_4
      rw [h.b.R.1, if_neg (nI_ge hi (by omega)), b2_of (m_isScored N h.b (by omega) hp), nI_1]
      simp only [smZ]
      by_cases hz : sv m i p = 0
      · rw [if_pos hz, if_pos rfl, if_pos hz, show (0 : Int32) = zI 0 from rfl, zI_add]
      · rw [if_neg hz, if_neg (by decide), if_neg hz, b2_of (m_adjust hN h (by omega) hp), zI_add]
    · show T_X10_normal_4 N (L_X10_normal_4 N n) _ _ _ _ = _
      unfold T_X10_normal_4
      rw [h.b.R.1, if_pos (nI_le (Nat.le_refl _) (by omega))]
  unfold f_X10_normal
  rw [l3_of h1, b2_of (m_scoresOf' (by omega) h hp), zI_64 (by unfold zB; omega), nI_64 (by omega), b2_of (m_down N (by unfold zL; omega) (by omega) (by omega) m)]
  unfold nm
  rw [if_neg h0]
theorem m_leastOf {N : Nat} (hN : 12 < N) {m : Mem} (h : Rel m) {p : Nat} (hp : p < 16) : f_X10_leastOf N (nI p) m = some (nI (ls (sv m) p), m) := by
  have hR := h.b.R.2
  have e : ls (sv m) p = mn (fun r => sv m r p) 101 (nR m) := by
    unfold ls
    obtain ⟨d, hd⟩ : ∃ d, 12 = nR m + d := ⟨12 - nR m, by omega⟩
    rw [hd]
    exact mn_more d (fun i h1 h2 => h.sv0 (by omega) hp (Or.inl h1))
  unfold f_X10_leastOf
  rw [e]
  refine (l2_of (y := nI (mn (fun r => sv m r p) 101 (nR m))) (m := m) ?_).trans rfl
  refine loop_fn (fun n i => L_X10_leastOf_5 N n (nI p) (nI (mn (fun r => sv m r p) 101 i)) (nI i) m) (nR m) _ (fun n i hi => ?_) (fun n => ?_) (nR m) N 0 (by omega) (by omega)
  · show T_X10_leastOf_5 N (L_X10_leastOf_5 N n) _ _ _ _ = L_X10_leastOf_5 N n _ _ _ _
    have hsb := h.sN i (by omega) p hp
    have hmn := mn_le (f := fun r => sv m r p) (c := 101) i
    unfold T_X10_leastOf_5 B_X10_leastOf_43
    rw [h.b.R.1, if_neg (nI_ge hi (by omega)), b2_of (m_isScored N h.b (by omega) hp), nI_1]
    simp only [mn]
    by_cases hz : sv m i p = 0
    · rw [if_pos hz, if_pos rfl, if_pos hz]
    · rw [if_neg hz, if_neg (by decide), if_neg hz, b2_of (m_sv N h.b (by omega) hp), b2_of (m_sv N h.b (by omega) hp)]
      by_cases hl : sv m i p < mn (fun r => sv m r p) 101 i
      · rw [if_neg (nI_ge hl (by omega)), if_pos hl]
      · rw [if_pos (nI_le (by omega) (by omega)), if_neg hl]
  · show T_X10_leastOf_5 N (L_X10_leastOf_5 N n) _ _ _ _ = _
    unfold T_X10_leastOf_5
    rw [h.b.R.1, if_pos (nI_le (Nat.le_refl _) (by omega))]
theorem m_highOf {N : Nat} (hN : 12 < N) {m : Mem} (h : Rel m) {p : Nat} (hp : p < 16) : f_X10_highOf N (nI p) m = some (nI (hg (sv m) p), m) := by
  have hR := h.b.R.2
  have e : hg (sv m) p = cnt (fun r => decide (80 ≤ sv m r p)) (nR m) := by
    unfold hg
    obtain ⟨d, hd⟩ : ∃ d, 12 = nR m + d := ⟨12 - nR m, by omega⟩
    rw [hd]
    exact cnt_more d (fun i h1 h2 => by rw [h.sv0 (by omega) hp (Or.inl h1)]; rfl)
  unfold f_X10_highOf
  rw [e]
  refine (l2_of (y := nI (cnt (fun r => decide (80 ≤ sv m r p)) (nR m))) (m := m) ?_).trans rfl
  refine loop_fn (fun n i => L_X10_highOf_4 N n (nI p) (nI (cnt (fun r => decide (80 ≤ sv m r p)) i)) (nI i) m) (nR m) _ (fun n i hi => ?_) (fun n => ?_) (nR m) N 0 (by omega) (by omega)
  · show T_X10_highOf_4 N (L_X10_highOf_4 N n) _ _ _ _ = L_X10_highOf_4 N n _ _ _ _
    have hsb := h.sN i (by omega) p hp
    unfold T_X10_highOf_4
    rw [h.b.R.1, if_neg (nI_ge hi (by omega)), b2_of (m_sv N h.b (by omega) hp), nI_1, nI_1]
    simp only [cnt]
    by_cases h80 : 80 ≤ sv m i p
    · rw [if_neg (show ¬ nI (sv m i p) < (80 : Int32) from nI_nlt (b := 80) h80 (by omega)), if_pos (decide_eq_true h80)]
    · rw [if_pos (show nI (sv m i p) < (80 : Int32) from nI_lt (b := 80) (by omega) (by omega)), show (0 : Int32) = nI 0 from rfl, nI_add, if_neg (fun e => h80 (of_decide_eq_true e))]
  · show T_X10_highOf_4 N (L_X10_highOf_4 N n) _ _ _ _ = _
    unfold T_X10_highOf_4
    rw [h.b.R.1, if_pos (nI_le (Nat.le_refl _) (by omega))]
theorem m_ahead {N : Nat} (hN : 16 < N) {m : Mem} (h : Rel m) {a b : Nat} (ha : a < nQ m) (hb : b < nQ m) (hra : rn m a = true) (hrb : rn m b = true) {k : Nat} (hk : k ≤ 4) : f_X10_ahead N (nI a) (nI b) (nI k) m = some (zI (mf m k a - mf m k b), m) := by
  have hQ := h.b.Q.2
  unfold f_X10_ahead mf
  rcases (show k = 0 ∨ k = 1 ∨ k = 2 ∨ k = 3 ∨ k = 4 by omega) with rfl | rfl | rfl | rfl | rfl
  · rw [if_pos (by decide), if_pos rfl, if_pos rfl, b2_of (m_normal hN h (by omega) hra), b2_of (m_normal hN h (by omega) hrb), zI_sub]
  · rw [if_neg (by decide), if_pos (by decide), b2_of (m_leastOf (by omega) h (by omega)), b2_of (m_leastOf (by omega) h (by omega)), ← zI_nI, ← zI_nI, zI_sub]
    rfl
  · rw [if_neg (by decide), if_neg (by decide), if_pos (by decide), b2_of (m_highOf (by omega) h (by omega)), b2_of (m_highOf (by omega) h (by omega)), ← zI_nI, ← zI_nI, zI_sub]
    rfl
  · rw [if_neg (by decide), if_neg (by decide), if_neg (by decide), if_pos (by decide), show (3 : Int32) = nI 3 from rfl, b2_of (m_proposal N (by omega) (by omega) m), b2_of (m_proposal N (by omega) (by omega) m), show gI m 96 (59 + 3 + 5 * b) = gI m 96 (62 + 5 * b) from rfl, show gI m 96 (59 + 3 + 5 * a) = gI m 96 (62 + 5 * a) from rfl]
    obtain ⟨a1, a2⟩ := h.b.asks ha
    obtain ⟨b1, b2⟩ := h.b.asks hb
    generalize vN (gI m 96 (62 + 5 * a)) = x at *
    generalize vN (gI m 96 (62 + 5 * b)) = y at *
    rw [a1, b1, ← zI_nI, ← zI_nI, zI_sub]
    show some (zI ((y : Int) - x), m) = some (zI (-(x : Int) - -(y : Int)), m)
    rw [show (-(x : Int) - -(y : Int)) = (y : Int) - x by omega]
  · rw [if_neg (by decide), if_neg (by decide), if_neg (by decide), if_neg (by decide), ← zI_nI, ← zI_nI, zI_sub]
    show some (zI ((b : Int) - a), m) = some (zI (-(a : Int) - -(b : Int)), m)
    rw [show (-(a : Int) - -(b : Int)) = (b : Int) - a by omega]
theorem m_roundOf {N : Nat} (hN : 16 < N) {m : Mem} (h : Rel m) {a b : Nat} (ha : a < nQ m) (hb : b < nQ m) (hra : rn m a = true) (hrb : rn m b = true) (hab : a ≠ b) : f_X10_roundOf N (nI a) (nI b) m = some (nI (sp m a b), m) := by
  have go : ∀ d n k, k + d = 4 → d < n → L_X10_roundOf_2 N n (nI a) (nI b) (nI k) m = some (nI (sepd (mf m) a b d k), m) := by
    intro d
    induction d with
    | zero =>
      intro n k hk hn
      obtain ⟨n, rfl⟩ : ∃ k, n = k + 1 := ⟨n - 1, by omega⟩
      obtain rfl : k = 4 := by omega
      have b1 := mf_b h ha hra 4
      have b2 := mf_b h hb hrb 4
      show T_X10_roundOf_2 N (L_X10_roundOf_2 N n) _ _ _ _ = _
      unfold T_X10_roundOf_2
      rw [b2_of (m_ahead hN h ha hb hra hrb (by omega)), if_neg]
      · rfl
      · intro e
        have := (zI_eq (b := 0) (by unfold zB; omega) (by unfold zB; omega)).mp e
        change -(a : Int) - -(b : Int) = 0 at this
        omega
    | succ d ih =>
      intro n k hk hn
      obtain ⟨n, rfl⟩ : ∃ k, n = k + 1 := ⟨n - 1, by omega⟩
      have b1 := mf_b h ha hra k
      have b2 := mf_b h hb hrb k
      show T_X10_roundOf_2 N (L_X10_roundOf_2 N n) _ _ _ _ = _
      unfold T_X10_roundOf_2
      rw [b2_of (m_ahead hN h ha hb hra hrb (by omega)), nI_1]
      show _ = some (nI (if mf m k a = mf m k b then sepd (mf m) a b d (k + 1) else k), m)
      by_cases he : mf m k a = mf m k b
      · rw [if_pos (by rw [he, Int.sub_self]; rfl), if_pos he]
        exact ih n (k + 1) (by omega) (by omega)
      · rw [if_neg (fun e => he (by have := (zI_eq (b := 0) (by unfold zB; omega) (by unfold zB; omega)).mp e; omega)), if_neg he]
  unfold f_X10_roundOf
  rw [l2_of (show L_X10_roundOf_2 N N (nI a) (nI b) 0 m = _ from go 4 N 0 rfl (by omega))]
  rfl
/-- the model's test of a panel: -1 stands for all -/
def inP (m : Mem) (pa : Int32) (q : Nat) : Bool := decide (pa = -1) || decide (gI m 96 (59 + 5 * q) = pa)
theorem m_rankIn {N : Nat} (hN : 17 < N) {m : Mem} (h : Rel m) (pa : Int32) {p : Nat} (hp : p < nQ m) (hr : rn m p = true) : f_X10_rankIn N pa (nI p) m = some (nI (rk (fun q => rn m q && inP m pa q) (bf m) (nQ m) p), m) := by
  have hQ := h.b.Q.2
  unfold f_X10_rankIn
  refine (l2_of (y := nI (rk (fun q => rn m q && inP m pa q) (bf m) (nQ m) p)) (m := m) ?_).trans rfl
  refine loop_fn (fun n i => L_X10_rankIn_5 N n pa (nI p) (nI (rk (fun q => rn m q && inP m pa q) (bf m) i p)) (nI i) m) (nQ m) _ (fun n i hi => ?_) (fun n => ?_) (nQ m) N 0 (by omega) (by omega)
  · show T_X10_rankIn_5 N (L_X10_rankIn_5 N n) _ _ _ _ _ = L_X10_rankIn_5 N n _ _ _ _ _
    have z : ∀ x : Nat, nI x + (0 : Int32) = nI x := fun x => nI_add x 0
    have h0 : B_X10_rankIn_51 N (L_X10_rankIn_5 N n) pa (nI p) (nI (rk (fun q => rn m q && inP m pa q) (bf m) i p)) (nI i) m = L_X10_rankIn_5 N n pa (nI p) (nI (rk (fun q => rn m q && inP m pa q) (bf m) i p)) (nI (i + 1)) m := by
      unfold B_X10_rankIn_51 B_X10_rankIn_52 B_X10_rankIn_81
      rw [if_pos rfl, z, nI_1]
    unfold T_X10_rankIn_5
    rw [h.b.Q.1, if_neg (nI_ge hi (by omega)), rk_s]
    by_cases hip : i = p
    · rw [if_pos (by rw [hip]), h0, hip, bf_irr, Bool.and_false, if_neg (by decide)]
      rfl
    · rw [if_neg (fun e => hip ((nI_eq (by omega) (by omega)).mp e)), b2_of (m_isRanked (by omega) h (by omega))]
      cases hri : rn m i
      · rw [if_pos (by rfl), h0, Bool.false_and, Bool.false_and, if_neg (by decide)]
        rfl
      · have h1 : B_X10_rankIn_47 N (L_X10_rankIn_5 N n) pa (nI p) (nI (rk (fun q => rn m q && inP m pa q) (bf m) i p)) (nI i) m = L_X10_rankIn_5 N n pa (nI p) (nI (rk (fun q => rn m q && inP m pa q) (bf m) i p + if bf m i p = true then 1 else 0)) (nI (i + 1)) m := by
          have b1 := mf_b h hi hri (sp m i p)
          have b2 := mf_b h hp hr (sp m i p)
          have hk := (sepd_le (mf m) i p 4 0).2
          have hbs : bf m i p = decide (mf m (sp m i p) p < mf m (sp m i p) i) := bfd_sep _ _ _ _ _
          unfold B_X10_rankIn_47 B_X10_rankIn_52 B_X10_rankIn_81
          rw [if_neg (by decide), b2_of (m_roundOf (by omega) h hi hp hri hr hip), b2_of (m_ahead (by omega) h hi hp hri hr (show sp m i p ≤ 4 by unfold sp; omega)), z, nI_1, nI_1, hbs]
          by_cases hl : mf m (sp m i p) p < mf m (sp m i p) i
          · rw [if_neg (fun e => by have := (zI_le (b := 0) (by unfold zB; omega) (by unfold zB; omega)).mp e; omega), decide_eq_true hl, if_pos rfl]
          · rw [if_pos (show zI (mf m (sp m i p) i - mf m (sp m i p) p) ≤ 0 from (zI_le (b := 0) (by unfold zB; omega) (by unfold zB; omega)).mpr (by omega)), decide_eq_false hl, if_neg (by decide)]
            rfl
        rw [if_neg (by decide), Bool.true_and]
        have hin : inP m pa i = (decide (pa = -1) || decide (gI m 96 (59 + 5 * i) = pa)) := rfl
        by_cases hpa : pa = -1
        · rw [if_pos hpa, h1, hin, decide_eq_true hpa, Bool.true_or, Bool.true_and]
        · rw [if_neg hpa, hin, decide_eq_false hpa, Bool.false_or, show (0 : Int32) = nI 0 from rfl, b2_of (m_proposal N (by omega) (by omega) m), show gI m 96 (59 + 0 + 5 * i) = gI m 96 (59 + 5 * i) from rfl]
          by_cases he : gI m 96 (59 + 5 * i) = pa
          · rw [if_pos he, h1, decide_eq_true he, Bool.true_and]
          · rw [if_neg he, h0, decide_eq_false he, Bool.false_and, if_neg (by decide)]
            rfl
  · show T_X10_rankIn_5 N (L_X10_rankIn_5 N n) _ _ _ _ _ = _
    unfold T_X10_rankIn_5
    rw [h.b.Q.1, if_pos (nI_le (Nat.le_refl _) (by omega))]
