theorem and255_8 (x : Int32) : (x &&& 255).toInt8 = x.toInt8 := by
  apply Int8.toBitVec_inj.mp
  rw [Int32.toBitVec_toInt8, Int32.toBitVec_toInt8]
  apply BitVec.eq_of_getLsbD_eq
  intro i hi
  have h255 := b_255 i
  unfold bt at h255
  rw [BitVec.getLsbD_signExtend, BitVec.getLsbD_signExtend]
  simp only [Int32.toBitVec_and, BitVec.getLsbD_and]
  rw [h255]
  simp [hi, show i < 32 by omega]
theorem and255_b (x : Int32) : 0 ≤ (x &&& 255).toInt ∧ (x &&& 255).toInt < 256 := by
  obtain ⟨n, hn, rfl⟩ := wb_of32 x
  rw [show (255 : Int32) = nI 255 from rfl, nx_and]
  have h : n &&& 255 < 256 := Nat.and_lt_two_pow n (n := 8) (by decide)
  rw [nI_toInt (by omega)]
  omega
/-- the byte i of five words -/
def bw (w : Nat → Int32) (i : Nat) : Int32 := w (i / 4) >>> (nI (24 - 8 * (i % 4)) &&& 31)
def cput (w : Nat → Int32) (l : Nat) : Nat → Mem → Mem
  | 0, m => m
  | t + 1, m => sI (sI (cput w l t m) 2 (l + t) (vp_nar .byte ((bw w t).toInt8.toInt32))) 1 1 (nI (l + t + 1))
def mput (w : Nat → Int32) (l : Nat) : Nat → Mem → Mem
  | 0, m => m
  | t + 1, m => sI (sI (mput w l t m) 100 (l + t) (bw w t &&& 255)) 95 7 (nI (l + t + 1))
theorem cput_k (w : Nat → Int32) (l : Nat) (m : Mem) : ∀ t k j, ¬ (k = 1 ∧ j = 1) → k ≠ 2 → gI (cput w l t m) k j = gI m k j
  | 0, _, _, _, _ => rfl
  | t + 1, k, j, h1, h2 => by
    show gI (sI (sI (cput w l t m) 2 (l + t) _) 1 1 _) k j = _
    rw [gI_sI, if_neg (by omega), gI_sI, if_neg (by omega)]
    exact cput_k w l m t k j h1 h2
theorem cput_l (w : Nat → Int32) (l : Nat) (m : Mem) (h : gI m 1 1 = nI l) : ∀ t, gI (cput w l t m) 1 1 = nI (l + t)
  | 0 => h
  | t + 1 => by
    show gI (sI (sI (cput w l t m) 2 (l + t) _) 1 1 _) 1 1 = _
    rw [gI_sI, if_pos ⟨rfl, rfl⟩]
    rfl
theorem cput_2 (w : Nat → Int32) (l : Nat) (m : Mem) : ∀ t i, gI (cput w l t m) 2 i = if l ≤ i ∧ i < l + t then (bw w (i - l)).toInt8.toInt32 else gI m 2 i
  | 0, i => by
    rw [if_neg (by omega)]
    rfl
  | t + 1, i => by
    show gI (sI (sI (cput w l t m) 2 (l + t) _) 1 1 _) 2 i = _
    rw [gI_sI, if_neg (by omega), gI_sI, cput_2 w l m t i]
    by_cases h : i = l + t
    · rw [if_pos ⟨rfl, h⟩, if_pos (by omega), pk_vb, h, show l + t - l = t by omega]
    · rw [if_neg (by omega)]
      by_cases h2 : l ≤ i ∧ i < l + t
      · rw [if_pos h2, if_pos (by omega)]
      · rw [if_neg h2, if_neg (by omega)]
theorem mput_k (w : Nat → Int32) (l : Nat) (m : Mem) : ∀ t k j, ¬ (k = 95 ∧ j = 7) → k ≠ 100 → gI (mput w l t m) k j = gI m k j
  | 0, _, _, _, _ => rfl
  | t + 1, k, j, h1, h2 => by
    show gI (sI (sI (mput w l t m) 100 (l + t) _) 95 7 _) k j = _
    rw [gI_sI, if_neg (by omega), gI_sI, if_neg (by omega)]
    exact mput_k w l m t k j h1 h2
theorem mput_l (w : Nat → Int32) (l : Nat) (m : Mem) (h : gI m 95 7 = nI l) : ∀ t, gI (mput w l t m) 95 7 = nI (l + t)
  | 0 => h
  | t + 1 => by
    show gI (sI (sI (mput w l t m) 100 (l + t) _) 95 7 _) 95 7 = _
    rw [gI_sI, if_pos ⟨rfl, rfl⟩]
    rfl
theorem mput_100 (w : Nat → Int32) (l : Nat) (m : Mem) : ∀ t i, gI (mput w l t m) 100 i = if l ≤ i ∧ i < l + t then bw w (i - l) &&& 255 else gI m 100 i
  | 0, i => by
    rw [if_neg (by omega)]
    rfl
  | t + 1, i => by
    show gI (sI (sI (mput w l t m) 100 (l + t) _) 95 7 _) 100 i = _
    rw [gI_sI, if_neg (by omega), gI_sI, mput_100 w l m t i]
    by_cases h : i = l + t
    · rw [if_pos ⟨rfl, h⟩, if_pos (by omega), h, show l + t - l = t by omega]
    · rw [if_neg (by omega)]
      by_cases h2 : l ≤ i ∧ i < l + t
      · rw [if_pos h2, if_pos (by omega)]
      · rw [if_neg h2, if_neg (by omega)]
theorem cput_R (w : Nat → Int32) (l : Nat) (m : Mem) : ∀ t k j, gR (cput w l t m) k j = gR m k j
  | 0, _, _ => rfl
  | t + 1, k, j => cput_R w l m t k j
theorem mput_R (w : Nat → Int32) (l : Nat) (m : Mem) : ∀ t k j, gR (mput w l t m) k j = gR m k j
  | 0, _, _ => rfl
  | t + 1, k, j => mput_R w l m t k j
theorem mput_J (w : Nat → Int32) (l : Nat) (m : Mem) : ∀ t k j, gJ (mput w l t m) k j = gJ m k j
  | 0, _, _ => rfl
  | t + 1, k, j => mput_J w l m t k j
theorem cput_step (N n : Nat) (w : Nat → Int32) (l t : Nat) (m : Mem) (h : gI m 1 1 = nI l) (hl : l + t < 800) :
    L_X8_put_3 N (n + 1) (w (t / 4)) (nI (24 - 8 * (t % 4))) (cput w l t m) = L_X8_put_3 N n (w (t / 4)) (nI (24 - 8 * (t % 4)) + -8) (cput w l (t + 1) m) := by
  show T_X8_put_3 N (L_X8_put_3 N n) _ _ _ = _
  unfold T_X8_put_3
  rw [if_neg (nI_pos (by omega)), cput_l w l m h t, if_neg (show ¬ (800 : Int32) ≤ nI (l + t) from nI_ge (b := 800) (by omega) (by omega)), gd_t (inb_nI (by omega) (by omega)), wr_eq, wr_eq, nI_clamp (by omega), gI_sI, if_neg (by omega), cput_l w l m h t, nI_1]
  rfl
theorem mput_step (N n : Nat) (w : Nat → Int32) (l t : Nat) (m : Mem) (h : gI m 95 7 = nI l) (hl : l + t < 800) :
    L_X10_four_3 N (n + 1) (w (t / 4)) (nI (24 - 8 * (t % 4))) (mput w l t m) = L_X10_four_3 N n (w (t / 4)) (nI (24 - 8 * (t % 4)) + -8) (mput w l (t + 1) m) := by
  show T_X10_four_3 N (L_X10_four_3 N n) _ _ _ = _
  unfold T_X10_four_3
  rw [if_neg (nI_pos (by omega)), mput_l w l m h t, gd_t (inb_nI (by omega) (by omega)), wr_eq, wr_eq, nI_clamp (by omega), gI_sI, if_neg (by omega), mput_l w l m h t, nI_1]
  rfl
theorem cput_four {N : Nat} (hN : 5 ≤ N) (w : Nat → Int32) (l q : Nat) (m : Mem) (h : gI m 1 1 = nI l) (hl : l + 4 * q + 4 ≤ 800) :
    f_X8_put N (w q) (cput w l (4 * q) m) = some (cput w l (4 * (q + 1)) m) := by
  obtain ⟨n, hn⟩ : ∃ n, N = n + 5 := ⟨N - 5, by omega⟩
  have s0 := cput_step N (n + 4) w l (4 * q) m h (by omega)
  have s1 := cput_step N (n + 3) w l (4 * q + 1) m h (by omega)
  have s2 := cput_step N (n + 2) w l (4 * q + 2) m h (by omega)
  have s3 := cput_step N (n + 1) w l (4 * q + 3) m h (by omega)
  rw [show 4 * q / 4 = q by omega, show 4 * q % 4 = 0 by omega] at s0
  rw [show (4 * q + 1) / 4 = q by omega, show (4 * q + 1) % 4 = 1 by omega] at s1
  rw [show (4 * q + 2) / 4 = q by omega, show (4 * q + 2) % 4 = 2 by omega] at s2
  rw [show (4 * q + 3) / 4 = q by omega, show (4 * q + 3) % 4 = 3 by omega] at s3
  unfold f_X8_put
  have hL : L_X8_put_3 N N (w q) 24 (cput w l (4 * q) m) = L_X8_put_3 N (n + 4 + 1) (w q) (nI (24 - 8 * 0)) (cput w l (4 * q) m) := by
    rw [show L_X8_put_3 N N = L_X8_put_3 N (n + 4 + 1) by rw [hn]]
    rfl
  refine l1_of ?_
  rw [hL, s0, show nI (24 - 8 * 0) + -8 = nI (24 - 8 * 1) by decide, s1, show nI (24 - 8 * 1) + -8 = nI (24 - 8 * 2) by decide, s2, show nI (24 - 8 * 2) + -8 = nI (24 - 8 * 3) by decide, s3, show nI (24 - 8 * 3) + -8 = (-8 : Int32) by decide]
  show T_X8_put_3 N (L_X8_put_3 N n) _ _ _ = _
  unfold T_X8_put_3
  rw [if_pos (by decide)]
  rfl
theorem mput_four {N : Nat} (hN : 5 ≤ N) (w : Nat → Int32) (l q : Nat) (m : Mem) (h : gI m 95 7 = nI l) (hl : l + 4 * q + 4 ≤ 800) :
    f_X10_four N (w q) (mput w l (4 * q) m) = some (mput w l (4 * (q + 1)) m) := by
  obtain ⟨n, hn⟩ : ∃ n, N = n + 5 := ⟨N - 5, by omega⟩
  have s0 := mput_step N (n + 4) w l (4 * q) m h (by omega)
  have s1 := mput_step N (n + 3) w l (4 * q + 1) m h (by omega)
  have s2 := mput_step N (n + 2) w l (4 * q + 2) m h (by omega)
  have s3 := mput_step N (n + 1) w l (4 * q + 3) m h (by omega)
  rw [show 4 * q / 4 = q by omega, show 4 * q % 4 = 0 by omega] at s0
  rw [show (4 * q + 1) / 4 = q by omega, show (4 * q + 1) % 4 = 1 by omega] at s1
  rw [show (4 * q + 2) / 4 = q by omega, show (4 * q + 2) % 4 = 2 by omega] at s2
  rw [show (4 * q + 3) / 4 = q by omega, show (4 * q + 3) % 4 = 3 by omega] at s3
  unfold f_X10_four
  have hL : L_X10_four_3 N N (w q) 24 (mput w l (4 * q) m) = L_X10_four_3 N (n + 4 + 1) (w q) (nI (24 - 8 * 0)) (mput w l (4 * q) m) := by
    rw [show L_X10_four_3 N N = L_X10_four_3 N (n + 4 + 1) by rw [hn]]
    rfl
  refine l1_of ?_
  rw [hL, s0, show nI (24 - 8 * 0) + -8 = nI (24 - 8 * 1) by decide, s1, show nI (24 - 8 * 1) + -8 = nI (24 - 8 * 2) by decide, s2, show nI (24 - 8 * 2) + -8 = nI (24 - 8 * 3) by decide, s3, show nI (24 - 8 * 3) + -8 = (-8 : Int32) by decide]
  show T_X10_four_3 N (L_X10_four_3 N n) _ _ _ = _
  unfold T_X10_four_3
  rw [if_pos (by decide)]
  rfl
def w5 (a b c d e : Int32) (i : Nat) : Int32 := if i = 0 then a else if i = 1 then b else if i = 2 then c else if i = 3 then d else e
theorem op_append {N : Nat} (hN : 5 ≤ N) : Op_append N := by
  intro m hR a b c d e
  obtain ⟨len, l1, l2, l3, l4⟩ := hR.2.2.1
  have e7 : gI (sI m 95 0 0) 95 7 = nI len := by rw [gI_sI, if_neg (by decide)]; exact l3
  by_cases h1 : len ≤ 780
  · have hc := fun q (hq : q < 5) => cput_four hN (w5 a b c d e) len q m l2 (by omega)
    have hm0 : gI (sI (sJ (cput (w5 a b c d e) len 20 m) 108 0 (nI (len + 20)).toInt64) 95 0 0) 95 7 = nI len := by
      rw [gI_sI, if_neg (by decide), gI_sJ, cput_k _ _ _ _ _ _ (by omega) (by omega)]
      exact l3
    have hm := fun q (hq : q < 5) => mput_four hN (w5 a b c d e) len q (sI (sJ (cput (w5 a b c d e) len 20 m) 108 0 (nI (len + 20)).toInt64) 95 0 0) hm0 (by omega)
    refine ⟨0, sJ (cput (w5 a b c d e) len 20 m) 108 0 (nI (len + 20)).toInt64, nI (len + 20), mput (w5 a b c d e) len 20 (sI (sJ (cput (w5 a b c d e) len 20 m) 108 0 (nI (len + 20)).toInt64) 95 0 0), ?_, ?_, ?_, fun _ => ?_, ?_⟩
    · unfold f_L_append f_X9_append
      rw [l2, if_pos (show nI len ≤ (780 : Int32) from nI_le (b := 780) h1 (by omega))]
      have g0 : f_X8_put N a m = some (cput (w5 a b c d e) len 4 m) := hc 0 (by omega)
      have g1 : f_X8_put N b (cput (w5 a b c d e) len 4 m) = some (cput (w5 a b c d e) len 8 m) := hc 1 (by omega)
      have g2 : f_X8_put N c (cput (w5 a b c d e) len 8 m) = some (cput (w5 a b c d e) len 12 m) := hc 2 (by omega)
      have g3 : f_X8_put N d (cput (w5 a b c d e) len 12 m) = some (cput (w5 a b c d e) len 16 m) := hc 3 (by omega)
      have g4 : f_X8_put N e (cput (w5 a b c d e) len 16 m) = some (cput (w5 a b c d e) len 20 m) := hc 4 (by omega)
      rw [b1_of g0, b1_of g1, b1_of g2, b1_of g3, b1_of g4, cput_l _ _ _ l2]
      rfl
    · unfold f_X10_append
      rw [wr_eq, hm0, show nI len + 20 = nI (len + 20) from nI_add len 20, if_pos (show nI (len + 20) ≤ (800 : Int32) from nI_le (b := 800) (by omega) (by omega))]
      have g0 : f_X10_four N a (sI (sJ (cput (w5 a b c d e) len 20 m) 108 0 (nI (len + 20)).toInt64) 95 0 0) = some (mput (w5 a b c d e) len 4 (sI (sJ (cput (w5 a b c d e) len 20 m) 108 0 (nI (len + 20)).toInt64) 95 0 0)) := hm 0 (by omega)
      have g1 : f_X10_four N b (mput (w5 a b c d e) len 4 (sI (sJ (cput (w5 a b c d e) len 20 m) 108 0 (nI (len + 20)).toInt64) 95 0 0)) = some (mput (w5 a b c d e) len 8 (sI (sJ (cput (w5 a b c d e) len 20 m) 108 0 (nI (len + 20)).toInt64) 95 0 0)) := hm 1 (by omega)
      have g2 : f_X10_four N c (mput (w5 a b c d e) len 8 (sI (sJ (cput (w5 a b c d e) len 20 m) 108 0 (nI (len + 20)).toInt64) 95 0 0)) = some (mput (w5 a b c d e) len 12 (sI (sJ (cput (w5 a b c d e) len 20 m) 108 0 (nI (len + 20)).toInt64) 95 0 0)) := hm 2 (by omega)
      have g3 : f_X10_four N d (mput (w5 a b c d e) len 12 (sI (sJ (cput (w5 a b c d e) len 20 m) 108 0 (nI (len + 20)).toInt64) 95 0 0)) = some (mput (w5 a b c d e) len 16 (sI (sJ (cput (w5 a b c d e) len 20 m) 108 0 (nI (len + 20)).toInt64) 95 0 0)) := hm 3 (by omega)
      have g4 : f_X10_four N e (mput (w5 a b c d e) len 16 (sI (sJ (cput (w5 a b c d e) len 20 m) 108 0 (nI (len + 20)).toInt64) 95 0 0)) = some (mput (w5 a b c d e) len 20 (sI (sJ (cput (w5 a b c d e) len 20 m) 108 0 (nI (len + 20)).toInt64) 95 0 0)) := hm 4 (by omega)
      rw [b1_of g0, b1_of g1, b1_of g2, b1_of g3, b1_of g4, mput_l _ _ _ hm0]
    · rw [mput_k _ _ _ _ _ _ (by omega) (by omega), gI_sI, if_pos ⟨rfl, rfl⟩]
    · rw [mput_J, gJ_sI, gJ_sJ, if_pos ⟨rfl, rfl⟩]
    · refine hR.newText ⟨len + 20, by omega, ?_, mput_l _ _ _ hm0 20, fun i hi => ?_⟩ (fun k k1 k2 k3 k4 => ?_) (fun j hj => ?_) (fun j hj => ?_) (fun k j => ?_)
      · rw [mput_k _ _ _ _ _ _ (by omega) (by omega), gI_sI, if_neg (by decide), gI_sJ, cput_l _ _ _ l2]
      · have q1 : gI (mput (w5 a b c d e) len 20 (sI (sJ (cput (w5 a b c d e) len 20 m) 108 0 (nI (len + 20)).toInt64) 95 0 0)) 100 i = if len ≤ i ∧ i < len + 20 then bw (w5 a b c d e) (i - len) &&& 255 else gI m 100 i := by
          rw [mput_100, gI_sI, if_neg (show ¬ (100 = 95 ∧ i = 0) by omega), gI_sJ, cput_k _ _ _ _ 100 _ (by omega) (by omega)]
        have q2 : gI (mput (w5 a b c d e) len 20 (sI (sJ (cput (w5 a b c d e) len 20 m) 108 0 (nI (len + 20)).toInt64) 95 0 0)) 2 i = if len ≤ i ∧ i < len + 20 then (bw (w5 a b c d e) (i - len)).toInt8.toInt32 else gI m 2 i := by
          rw [mput_k _ _ _ _ 2 _ (by omega) (by omega), gI_sI, if_neg (show ¬ (2 = 95 ∧ i = 0) by omega), gI_sJ, cput_2]
        rw [q1, q2]
        by_cases h2 : len ≤ i ∧ i < len + 20
        · rw [if_pos h2, if_pos h2, and255_8]
          exact ⟨(and255_b _).1, (and255_b _).2, rfl⟩
        · rw [if_neg h2, if_neg h2]
          exact l4 i (by omega)
      · funext j
        rw [mput_k _ _ _ _ _ _ (by omega) (by omega), gI_sI, if_neg (by omega), gI_sJ, cput_k _ _ _ _ _ _ (by omega) (by omega)]
      · rw [mput_k _ _ _ _ _ _ (by omega) (by omega), gI_sI, if_neg (by omega), gI_sJ, cput_k _ _ _ _ _ _ (by omega) (by omega)]
      · rw [mput_k _ _ _ _ _ _ (by omega) (by omega), gI_sI, if_neg (by omega), gI_sJ, cput_k _ _ _ _ _ _ (by omega) (by omega)]
      · rw [mput_R, gR_sI, gR_sJ, cput_R]
  · refine ⟨1, m, 0, sI (sI m 95 0 0) 95 0 1, ?_, ?_, ?_, fun h => absurd h (by decide), (hR.core (Core.sI95 (by omega))).core (Core.sI95 (by omega))⟩
    · unfold f_L_append f_X9_append
      rw [l2, if_neg (show ¬ nI len ≤ (780 : Int32) from nI_ge (a := 780) (by omega) (by omega))]
      rfl
    · unfold f_X10_append
      rw [wr_eq, e7, show nI len + 20 = nI (len + 20) from nI_add len 20, if_neg (show ¬ nI (len + 20) ≤ (800 : Int32) from nI_ge (a := 800) (by omega) (by omega))]
      rfl
    · rw [gI_sI, if_pos ⟨rfl, rfl⟩]
