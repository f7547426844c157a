/-! SETLINE, DECLARE, UNASSIGN, SETSCORE: the steps -/
def upN (f : Nat → Int32) (i : Nat) (v : Int32) : Nat → Int32 := fun j => if j = i then v else f j
theorem upN_same (f : Nat → Int32) (i : Nat) (v : Int32) : upN f i v i = v := if_pos rfl
theorem upN_ne (f : Nat → Int32) {i j : Nat} (v : Int32) (h : j ≠ i) : upN f i v j = f j := if_neg h
theorem upN_sI (m : Mem) (k j : Nat) (v : Int32) : gI (sI m k j v) k = upN (gI m k) j v := by
  funext b
  rw [gI_sI]
  unfold upN
  by_cases h : b = j
  · rw [if_pos ⟨rfl, h⟩, if_pos h]
  · rw [if_neg (by omega), if_neg h]
theorem sI_ne (m : Mem) {k j k' : Nat} (v : Int32) (h : k' ≠ k) : gI (sI m k j v) k' = gI m k' := by
  funext b
  rw [gI_sI, if_neg (by omega)]
theorem StateAt.of {m : Mem} {t gr li sc de W} (h : RelT t gr li sc de W) (e96 : gI m 96 = t) (e2 : gI m 3 2 = gr) (e3 : gI m 3 3 = li) (e4 : gI m 4 = sc) (e5 : gI m 5 = de) (e98 : gI m 98 = W) : StateAt m 3 98 0 := by
  unfold StateAt
  rw [show (fun i => gI m 98 (0 + i)) = gI m 98 from funext (fun i => by rw [Nat.zero_add]), e96, e2, e3, e4, e5, e98]
  exact h
theorem RelT.line {t gr li sc de W} (h : RelT t gr li sc de W) {v : Int32} (h0 : 0 ≤ v.toInt) (hv : vN v ≤ 100000) : RelT t gr v sc de (upN W 0 v) := by
  obtain ⟨h1, h2, h3, h4, h5, h6, h7, h8⟩ := h
  refine ⟨fun i hi => ?_, (upN_same _ _ _).symm, by rw [upN_same]; exact hv, by rw [upN_ne _ _ (by omega)]; exact h4, by rw [upN_ne _ _ (by omega)]; exact h5, fun r hr => ?_, fun r hr => by rw [upN_ne _ _ (by omega)]; exact h7 r hr, fun r hr p hp => ?_⟩
  · by_cases hi0 : i = 0
    · subst hi0
      rw [upN_same]
      exact h0
    · rw [upN_ne _ _ hi0]
      exact h1 i hi
  · rw [upN_ne _ _ (by omega)]
    exact h6 r hr
  · rw [upN_ne _ _ (by omega), upN_ne _ _ (by omega)]
    exact h8 r hr p hp
theorem RelT.decl {t gr li sc de W} (h : RelT t gr li sc de W) {r0 p0 : Nat} (hr0 : r0 < vN (t 1)) (hR : vN (t 1) ≤ 12) (hp0 : p0 < 16) {d : Int32} (hd : d = nI (vN (W (2 + r0)) ||| 2 ^ p0)) : RelT t gr li sc (upN de r0 d) (upN W (2 + r0) d) := by
  obtain ⟨h1, h2, h3, h4, h5, h6, h7, h8⟩ := h
  have hl := or_lt (h6 r0 (by omega)).2.1 hp0
  refine ⟨fun i hi => ?_, by rw [upN_ne _ _ (by omega)]; exact h2, by rw [upN_ne _ _ (by omega)]; exact h3, by rw [upN_ne _ _ (by omega)]; exact h4, by rw [upN_ne _ _ (by omega)]; exact h5, fun r hr => ?_, fun r hr => by rw [upN_ne _ _ (by omega)]; exact h7 r hr, fun r hr p hp => ?_⟩
  · by_cases hi0 : i = 2 + r0
    · subst hi0
      rw [upN_same, hd, nI_toInt (by omega)]
      omega
    · rw [upN_ne _ _ hi0]
      exact h1 i hi
  · by_cases hrr : r = r0
    · subst hrr
      rw [upN_same, upN_same]
      refine ⟨rfl, ?_, fun hz => by omega⟩
      rw [hd, vN_nI (by omega)]
      exact hl
    · rw [upN_ne _ _ hrr, upN_ne _ _ (by omega)]
      exact h6 r hr
  · rw [upN_ne _ _ (by omega), upN_ne _ _ (by omega)]
    exact h8 r hr p hp
theorem RelT.put {t gr li sc de W} (h : RelT t gr li sc de W) {r0 p0 : Nat} (hr0 : r0 < vN (t 1)) (hR : vN (t 1) ≤ 12) (hp0 : p0 < vN (t 2)) (hQ : vN (t 2) ≤ 16) {c s : Int32} {w : Nat} (hw : w < 65536) (hwb : ∀ p, p < 16 → w.testBit p = if p = p0 then decide (¬ c = 0) else (vN (W (14 + r0))).testBit p) (hs : s = if 0 < c then c else 0) (hc : -1 ≤ c.toInt ∧ c.toInt ≤ 100) :
    RelT t gr li (upN sc (16 * r0 + p0) c) de (upN (upN W (14 + r0) (nI w)) (26 + (16 * r0 + p0)) s) := by
  obtain ⟨h1, h2, h3, h4, h5, h6, h7, h8⟩ := h
  have hs0 : 0 ≤ s.toInt := by
    rw [hs]
    by_cases hq : 0 < c
    · rw [if_pos hq]
      rw [Int32.lt_iff_toInt_lt] at hq
      simp at hq
      omega
    · rw [if_neg hq]
      decide
  refine ⟨fun i hi => ?_, by rw [upN_ne _ _ (by omega), upN_ne _ _ (by omega)]; exact h2, by rw [upN_ne _ _ (by omega), upN_ne _ _ (by omega)]; exact h3, by rw [upN_ne _ _ (by omega), upN_ne _ _ (by omega)]; exact h4, by rw [upN_ne _ _ (by omega), upN_ne _ _ (by omega)]; exact h5, fun r hr => ?_, fun r hr => ?_, fun r hr p hp => ?_⟩
  · by_cases hi0 : i = 26 + (16 * r0 + p0)
    · subst hi0
      rw [upN_same]
      exact hs0
    · rw [upN_ne _ _ hi0]
      by_cases hi1 : i = 14 + r0
      · subst hi1
        rw [upN_same, nI_toInt (by omega)]
        omega
      · rw [upN_ne _ _ hi1]
        exact h1 i hi
  · rw [upN_ne _ _ (by omega), upN_ne _ _ (by omega)]
    exact h6 r hr
  · rw [upN_ne _ _ (by omega)]
    by_cases hi1 : r = r0
    · subst hi1
      rw [upN_same, vN_nI (by omega)]
      exact hw
    · rw [upN_ne _ _ (by omega)]
      exact h7 r hr
  · obtain ⟨q1, q2⟩ := h8 r hr p hp
    by_cases hrr : r = r0
    · subst hrr
      rw [upN_ne _ _ (show 14 + r ≠ 26 + (16 * r + p0) by omega), upN_same, vN_nI (by omega), hwb p hp]
      by_cases hpp : p = p0
      · subst hpp
        rw [upN_same, upN_same, if_pos rfl]
        exact ⟨⟨by simp, hs, hc⟩, fun hz => by omega⟩
      · rw [if_neg hpp, upN_ne _ _ (by omega), upN_ne _ _ (by omega), upN_ne _ _ (by omega)]
        exact ⟨q1, q2⟩
    · rw [upN_ne _ _ (by omega), upN_ne _ _ (by omega), upN_ne _ _ (by omega), upN_ne _ _ (by omega), upN_ne _ _ (by omega)]
      exact ⟨q1, q2⟩
theorem op_setLine {N : Nat} (hN : 3000 < N) : Op_setLine N := by
  intro m hR v
  obtain ⟨C, hC, eC⟩ := c_remember N hR.hist
  have hlim : (nI 100001 - 1 : Int32) = 100000 := by decide
  by_cases ha : inR v 100001 = true
  · obtain ⟨j, hj, rfl⟩ := inR_nI ha
    obtain ⟨n, hn, h5⟩ := hR.past
    have h98 : gI m 3 3 = gI m 98 0 := hR.st.2.1
    have m5 : gI (sI (sJ (sI C 3 3 (nI j)) 108 0 (gI m 3 3).toInt64) 95 0 0) 95 5 = nI n := by
      rw [gI_sI, if_neg (by decide), gI_sJ, gI_sI, if_neg (by decide), eC.k (by omega)]
      exact h5
    obtain ⟨K, hK, eK⟩ := m_keeps hN hn m5
    have e98 : gI K 98 = gI m 98 := by
      funext b
      rw [eK.k (by omega) (by omega), gI_sI, if_neg (by omega), gI_sJ, gI_sI, if_neg (by omega), eC.k (by omega)]
    refine ⟨0, sJ (sI C 3 3 (nI j)) 108 0 (gI m 3 3).toInt64, gI m 3 3, sI K 98 0 (nI j), ?_, ?_, ?_, fun _ => ?_, ?_⟩
    · unfold f_L_setLine f_X9_setLine
      rw [if_neg (nI_pos (by omega)), if_pos (show nI j ≤ (100000 : Int32) from nI_le (b := 100000) (by omega) (by omega)), b1_of hC, eC.k (by omega)]
      rfl
    · unfold f_X10_setLine B_X10_setLine_16
      rw [← hlim, b2_of (rng_m N (by omega) _), if_pos ha, if_neg (by decide), rs_ok, b1_of hK, wr_eq, e98, h98]
    · rw [gI_sI, if_neg (by decide), eK.k (by omega) (by omega), gI_sI, if_pos ⟨rfl, rfl⟩]
    · rw [gJ_sI, eK.j, gJ_sI, gJ_sJ, if_pos ⟨rfl, rfl⟩]
    · refine hR.push eC (m1 := sI (sJ (sI C 3 3 (nI j)) 108 0 (gI m 3 3).toInt64) 95 0 0) (fun k b q1 q2 q3 q4 => ?_) (fun k b => rfl) eK (fun k hk => sI_ne _ _ hk) (fun k b => rfl) ?_
      · rw [gI_sI, if_neg (by omega), gI_sJ, gI_sI, if_neg (by omega)]
      · refine StateAt.of (hR.st.line (v := nI j) (by rw [nI_toInt (by omega)]; omega) (by rw [vN_nI (by omega)]; omega)) ?_ ?_ ?_ ?_ ?_ ?_
        · funext b
          rw [gI_sI, if_neg (by omega), eK.k (by omega) (by omega), gI_sI, if_neg (by omega), gI_sJ, gI_sI, if_neg (by omega), eC.k (by omega)]
        · rw [gI_sI, if_neg (by omega), eK.k (by omega) (by omega), gI_sI, if_neg (by omega), gI_sJ, gI_sI, if_neg (by omega), eC.k (by omega)]
        · rw [gI_sI, if_neg (by omega), eK.k (by omega) (by omega), gI_sI, if_neg (by omega), gI_sJ, gI_sI, if_pos ⟨rfl, rfl⟩]
        · funext b
          rw [gI_sI, if_neg (by omega), eK.k (by omega) (by omega), gI_sI, if_neg (by omega), gI_sJ, gI_sI, if_neg (by omega), eC.k (by omega)]
        · funext b
          rw [gI_sI, if_neg (by omega), eK.k (by omega) (by omega), gI_sI, if_neg (by omega), gI_sJ, gI_sI, if_neg (by omega), eC.k (by omega)]
        · rw [upN_sI, e98]
  · refine OpI.no hR (v := 1) (w := 0) (by decide) ?_ ?_ (Or.inl rfl)
    · unfold f_L_setLine f_X9_setLine B_X9_setLine_11
      by_cases h1 : v < 0
      · rw [if_pos h1]
        rfl
      · rw [if_neg h1, if_neg]
        · rfl
        · intro h2
          obtain ⟨j, hj, rfl⟩ := nI_of h1
          exact ha (nI_inR (by have := (nI_leI (b := 100000) hj (by omega)).mp h2; omega) (by omega))
    · unfold f_X10_setLine B_X10_setLine_16
      rw [← hlim, b2_of (rng_m N (by omega) _), if_neg ha, if_pos rfl, rs_no _ (by decide)]
