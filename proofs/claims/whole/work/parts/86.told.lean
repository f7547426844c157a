/-! LOAD: a line more in what is told -/
theorem up_panel {t t' f f' bu bu' rp rh rc ro co pp ph pt pa pl : Nat → Int32} {p n : Nat} (ht : ToldOK t) (hs : SetupOK t f bu rp rh rc ro co pp ph pt pa pl) (hp : t 0 = nI p) (p4 : p < 4) (hn : n ≤ 100000)
    (h1 : ∀ k, k ≠ 0 → k ≠ 7 + p → t' k = t k) (h2 : t' (7 + p) = nI n) (h3 : t' 0 = nI (p + 1)) (g0 : f' 0 = nI (p + 1)) (g1 : ∀ k, k ≠ 0 → f' k = f k) (u0 : bu' p = nI n) (u1 : ∀ j, j ≠ p → bu' j = bu j) : ToldOK t' ∧ SetupOK t' f' bu' rp rh rc ro co pp ph pt pa pl := by
  obtain ⟨a1, a2, a3, a4, a5, a6, a7, a8, a9, a10, a11, a12⟩ := ht
  obtain ⟨s1, s2, s3, s4, s5, s6, s7, s8, s9, s10, s11⟩ := hs
  have v0 : vN (t 0) = p := by rw [hp, vN_nI (by omega)]
  have v0' : vN (t' 0) = p + 1 := by rw [h3, vN_nI (by omega)]
  have e : ∀ k, k ≠ 0 → ¬ (7 ≤ k ∧ k < 11) → t' k = t k := fun k q1 q2 => h1 k q1 (by omega)
  have e1 := e 1 (by omega) (by omega)
  have e2 := e 2 (by omega) (by omega)
  refine ⟨⟨fun k hk => ?_, by omega, by rw [e1]; exact a3, by rw [e2]; exact a4, by rw [e 3 (by omega) (by omega)]; exact a5, by rw [e 4 (by omega) (by omega)]; exact a6, by rw [e 5 (by omega) (by omega)]; exact a7, by rw [e 6 (by omega) (by omega)]; exact a8, fun i hi => ?_, fun r hr => ?_, fun r hr => ?_, fun r hr => ?_⟩, by rw [g0, h3], by rw [g1 1 (by omega), e1]; exact s2, by rw [g1 2 (by omega), e2]; exact s3, by rw [g1 14 (by omega), e 3 (by omega) (by omega)]; exact s4, by rw [g1 16 (by omega), e 4 (by omega) (by omega)]; exact s5, by rw [g1 17 (by omega), e 5 (by omega) (by omega)]; exact s6, by rw [g1 15 (by omega), e 6 (by omega) (by omega)]; exact s7, fun i hi => ?_, fun r hr => ?_, fun r hr => ?_, fun r hr => ?_⟩
  · by_cases q0 : k = 0
    · rw [q0, h3, nI_toInt (by omega)]
      omega
    · by_cases q1 : k = 7 + p
      · rw [q1, h2, nI_toInt (by omega)]
        omega
      · rw [h1 k q0 q1]
        exact a1 k hk
  · by_cases q : i = p
    · rw [q, h2, vN_nI (by omega)]
      exact hn
    · rw [h1 (7 + i) (by omega) (by omega)]
      exact a9 i (by omega)
  · rw [e1] at hr
    have q := a10 r hr
    have := a3
    rw [e (11 + 4 * r) (by omega) (by omega), e (12 + 4 * r) (by omega) (by omega), e (13 + 4 * r) (by omega) (by omega), e (14 + 4 * r) (by omega) (by omega)]
    exact ⟨by omega, q.2⟩
  · rw [e2] at hr
    have q := a11 r hr
    rw [e (59 + 5 * r) (by omega) (by omega), e (60 + 5 * r) (by omega) (by omega), e (61 + 5 * r) (by omega) (by omega), e (62 + 5 * r) (by omega) (by omega), e (63 + 5 * r) (by omega) (by omega)]
    exact ⟨by omega, q.2⟩
  · rw [e (139 + r) (by omega) (by omega), e1]
    exact a12 r hr
  · by_cases q : i = p
    · rw [q, h2, u0]
    · rw [h1 (7 + i) (by omega) (by omega), u1 i q]
      exact s8 i (by omega)
  · rw [e1] at hr
    rw [e (11 + 4 * r) (by omega) (by omega), e (12 + 4 * r) (by omega) (by omega), e (13 + 4 * r) (by omega) (by omega), e (14 + 4 * r) (by omega) (by omega)]
    exact s9 r hr
  · rw [e (139 + r) (by omega) (by omega)]
    exact s10 r hr
  · rw [e2] at hr
    rw [e (59 + 5 * r) (by omega) (by omega), e (60 + 5 * r) (by omega) (by omega), e (61 + 5 * r) (by omega) (by omega), e (62 + 5 * r) (by omega) (by omega), e (63 + 5 * r) (by omega) (by omega)]
    exact s11 r hr
theorem up_rev {t t' f f' bu rp rp' rh rh' rc rc' ro ro' co pp ph pt pa pl : Nat → Int32} {p a b c d : Nat} (ht : ToldOK t) (hs : SetupOK t f bu rp rh rc ro co pp ph pt pa pl) (hp : t 1 = nI p) (p4 : p < 12) (ha : a < vN (t 0)) (hb : b ≤ 9) (hc : 1 ≤ c ∧ c ≤ 10) (hd : d < 256)
    (h1 : ∀ k, k ≠ 1 → ¬ (11 + 4 * p ≤ k ∧ k ≤ 14 + 4 * p) → t' k = t k) (ta : t' (11 + 4 * p) = nI a) (tb : t' (12 + 4 * p) = nI b) (tc : t' (13 + 4 * p) = nI c) (td : t' (14 + 4 * p) = nI d) (h3 : t' 1 = nI (p + 1)) (g0 : f' 1 = nI (p + 1)) (g1 : ∀ k, k ≠ 1 → f' k = f k)
    (ra : rp' p = nI a) (rb : rh' p = nI b) (rC : rc' p = nI c) (rd : ro' p = nI d) (oa : ∀ j, j ≠ p → rp' j = rp j) (ob : ∀ j, j ≠ p → rh' j = rh j) (oc : ∀ j, j ≠ p → rc' j = rc j) (od : ∀ j, j ≠ p → ro' j = ro j) : ToldOK t' ∧ SetupOK t' f' bu rp' rh' rc' ro' co pp ph pt pa pl := by
  obtain ⟨a1, a2, a3, a4, a5, a6, a7, a8, a9, a10, a11, a12⟩ := ht
  obtain ⟨s1, s2, s3, s4, s5, s6, s7, s8, s9, s10, s11⟩ := hs
  have v0 : vN (t 1) = p := by rw [hp, vN_nI (by omega)]
  have v0' : vN (t' 1) = p + 1 := by rw [h3, vN_nI (by omega)]
  have e : ∀ k, k ≠ 1 → ¬ (11 ≤ k ∧ k < 59) → t' k = t k := fun k q1 q2 => h1 k q1 (by omega)
  have e0 := e 0 (by omega) (by omega)
  have e2 := e 2 (by omega) (by omega)
  refine ⟨⟨fun k hk => ?_, by rw [e0]; exact a2, by omega, by rw [e2]; exact a4, by rw [e 3 (by omega) (by omega)]; exact a5, by rw [e 4 (by omega) (by omega)]; exact a6, by rw [e 5 (by omega) (by omega)]; exact a7, by rw [e 6 (by omega) (by omega)]; exact a8, fun i hi => ?_, fun r hr => ?_, fun r hr => ?_, fun r hr => ?_⟩, by rw [g1 0 (by omega), e0]; exact s1, by rw [g0, h3], by rw [g1 2 (by omega), e2]; exact s3, by rw [g1 14 (by omega), e 3 (by omega) (by omega)]; exact s4, by rw [g1 16 (by omega), e 4 (by omega) (by omega)]; exact s5, by rw [g1 17 (by omega), e 5 (by omega) (by omega)]; exact s6, by rw [g1 15 (by omega), e 6 (by omega) (by omega)]; exact s7, fun i hi => ?_, fun r hr => ?_, fun r hr => ?_, fun r hr => ?_⟩
  · by_cases q0 : k = 1
    · rw [q0, h3, nI_toInt (by omega)]
      omega
    · by_cases q1 : 11 + 4 * p ≤ k ∧ k ≤ 14 + 4 * p
      · rcases (show k = 11 + 4 * p ∨ k = 12 + 4 * p ∨ k = 13 + 4 * p ∨ k = 14 + 4 * p by omega) with q | q | q | q
        · rw [q, ta, nI_toInt (by omega)]; omega
        · rw [q, tb, nI_toInt (by omega)]; omega
        · rw [q, tc, nI_toInt (by omega)]; omega
        · rw [q, td, nI_toInt (by omega)]; omega
      · rw [h1 k q0 q1]
        exact a1 k hk
  · rw [e0] at hi
    rw [e (7 + i) (by omega) (by omega)]
    exact a9 i hi
  · rw [e0]
    by_cases q : r = p
    · rw [q, ta, tb, tc, td, vN_nI (by omega), vN_nI (by omega), vN_nI (by omega), vN_nI (by omega)]
      exact ⟨ha, hb, hc, hd⟩
    · rw [h1 (11 + 4 * r) (by omega) (by omega), h1 (12 + 4 * r) (by omega) (by omega), h1 (13 + 4 * r) (by omega) (by omega), h1 (14 + 4 * r) (by omega) (by omega)]
      exact a10 r (by omega)
  · rw [e2] at hr
    rw [e0, e (59 + 5 * r) (by omega) (by omega), e (60 + 5 * r) (by omega) (by omega), e (61 + 5 * r) (by omega) (by omega), e (62 + 5 * r) (by omega) (by omega), e (63 + 5 * r) (by omega) (by omega)]
    exact a11 r hr
  · rw [e (139 + r) (by omega) (by omega)]
    exact ⟨(a12 r hr).1, fun q => (a12 r hr).2 (by omega)⟩
  · rw [e0] at hi
    rw [e (7 + i) (by omega) (by omega)]
    exact s8 i hi
  · by_cases q : r = p
    · rw [q, ta, tb, tc, td]
      exact ⟨ra, rb, rC, rd⟩
    · rw [h1 (11 + 4 * r) (by omega) (by omega), h1 (12 + 4 * r) (by omega) (by omega), h1 (13 + 4 * r) (by omega) (by omega), h1 (14 + 4 * r) (by omega) (by omega), oa r q, ob r q, oc r q, od r q]
      exact s9 r (by omega)
  · rw [e (139 + r) (by omega) (by omega)]
    exact s10 r hr
  · rw [e2] at hr
    rw [e (59 + 5 * r) (by omega) (by omega), e (60 + 5 * r) (by omega) (by omega), e (61 + 5 * r) (by omega) (by omega), e (62 + 5 * r) (by omega) (by omega), e (63 + 5 * r) (by omega) (by omega)]
    exact s11 r hr
theorem up_prop {t t' f f' bu rp rh rc ro co pp pp' ph ph' pt pt' pa pa' pl pl' : Nat → Int32} {p a b c d g : Nat} (ht : ToldOK t) (hs : SetupOK t f bu rp rh rc ro co pp ph pt pa pl) (hp : t 2 = nI p) (p4 : p < 16) (ha : a < vN (t 0)) (hb : b ≤ 9) (hc : c ≤ 7) (hd : 1 ≤ d ∧ d ≤ 9999) (hg : 1 ≤ g ∧ g ≤ d)
    (h1 : ∀ k, k ≠ 2 → ¬ (59 + 5 * p ≤ k ∧ k ≤ 63 + 5 * p) → t' k = t k) (ta : t' (59 + 5 * p) = nI a) (tb : t' (60 + 5 * p) = nI b) (tc : t' (61 + 5 * p) = nI c) (td : t' (62 + 5 * p) = nI d) (tg : t' (63 + 5 * p) = nI g) (h3 : t' 2 = nI (p + 1)) (g0 : f' 2 = nI (p + 1)) (g1 : ∀ k, k ≠ 2 → f' k = f k)
    (ra : pp' p = nI a) (rb : ph' p = nI b) (rC : pt' p = nI c) (rd : pa' p = nI d) (rg : pl' p = nI g) (oa : ∀ j, j ≠ p → pp' j = pp j) (ob : ∀ j, j ≠ p → ph' j = ph j) (oc : ∀ j, j ≠ p → pt' j = pt j) (od : ∀ j, j ≠ p → pa' j = pa j) (og : ∀ j, j ≠ p → pl' j = pl j) : ToldOK t' ∧ SetupOK t' f' bu rp rh rc ro co pp' ph' pt' pa' pl' := by
  obtain ⟨a1, a2, a3, a4, a5, a6, a7, a8, a9, a10, a11, a12⟩ := ht
  obtain ⟨s1, s2, s3, s4, s5, s6, s7, s8, s9, s10, s11⟩ := hs
  have v0 : vN (t 2) = p := by rw [hp, vN_nI (by omega)]
  have v0' : vN (t' 2) = p + 1 := by rw [h3, vN_nI (by omega)]
  have e : ∀ k, k ≠ 2 → ¬ (59 ≤ k ∧ k < 139) → t' k = t k := fun k q1 q2 => h1 k q1 (by omega)
  have e0 := e 0 (by omega) (by omega)
  have e1 := e 1 (by omega) (by omega)
  refine ⟨⟨fun k hk => ?_, by rw [e0]; exact a2, by rw [e1]; exact a3, by omega, by rw [e 3 (by omega) (by omega)]; exact a5, by rw [e 4 (by omega) (by omega)]; exact a6, by rw [e 5 (by omega) (by omega)]; exact a7, by rw [e 6 (by omega) (by omega)]; exact a8, fun i hi => ?_, fun r hr => ?_, fun r hr => ?_, fun r hr => ?_⟩, by rw [g1 0 (by omega), e0]; exact s1, by rw [g1 1 (by omega), e1]; exact s2, by rw [g0, h3], by rw [g1 14 (by omega), e 3 (by omega) (by omega)]; exact s4, by rw [g1 16 (by omega), e 4 (by omega) (by omega)]; exact s5, by rw [g1 17 (by omega), e 5 (by omega) (by omega)]; exact s6, by rw [g1 15 (by omega), e 6 (by omega) (by omega)]; exact s7, fun i hi => ?_, fun r hr => ?_, fun r hr => ?_, fun r hr => ?_⟩
  · by_cases q0 : k = 2
    · rw [q0, h3, nI_toInt (by omega)]
      omega
    · by_cases q1 : 59 + 5 * p ≤ k ∧ k ≤ 63 + 5 * p
      · rcases (show k = 59 + 5 * p ∨ k = 60 + 5 * p ∨ k = 61 + 5 * p ∨ k = 62 + 5 * p ∨ k = 63 + 5 * p by omega) with q | q | q | q | q
        · rw [q, ta, nI_toInt (by omega)]; omega
        · rw [q, tb, nI_toInt (by omega)]; omega
        · rw [q, tc, nI_toInt (by omega)]; omega
        · rw [q, td, nI_toInt (by omega)]; omega
        · rw [q, tg, nI_toInt (by omega)]; omega
      · rw [h1 k q0 q1]
        exact a1 k hk
  · rw [e0] at hi
    rw [e (7 + i) (by omega) (by omega)]
    exact a9 i hi
  · rw [e1] at hr
    rw [e0, e (11 + 4 * r) (by omega) (by omega), e (12 + 4 * r) (by omega) (by omega), e (13 + 4 * r) (by omega) (by omega), e (14 + 4 * r) (by omega) (by omega)]
    exact a10 r hr
  · rw [e0]
    by_cases q : r = p
    · rw [q, ta, tb, tc, td, tg, vN_nI (by omega), vN_nI (by omega), vN_nI (by omega), vN_nI (by omega), vN_nI (by omega)]
      exact ⟨ha, hb, hc, hd, hg⟩
    · rw [h1 (59 + 5 * r) (by omega) (by omega), h1 (60 + 5 * r) (by omega) (by omega), h1 (61 + 5 * r) (by omega) (by omega), h1 (62 + 5 * r) (by omega) (by omega), h1 (63 + 5 * r) (by omega) (by omega)]
      exact a11 r (by omega)
  · rw [e (139 + r) (by omega) (by omega), e1]
    exact a12 r hr
  · rw [e0] at hi
    rw [e (7 + i) (by omega) (by omega)]
    exact s8 i hi
  · rw [e1] at hr
    rw [e (11 + 4 * r) (by omega) (by omega), e (12 + 4 * r) (by omega) (by omega), e (13 + 4 * r) (by omega) (by omega), e (14 + 4 * r) (by omega) (by omega)]
    exact s9 r hr
  · rw [e (139 + r) (by omega) (by omega)]
    exact s10 r hr
  · by_cases q : r = p
    · rw [q, ta, tb, tc, td, tg]
      exact ⟨ra, rb, rC, rd, rg⟩
    · rw [h1 (59 + 5 * r) (by omega) (by omega), h1 (60 + 5 * r) (by omega) (by omega), h1 (61 + 5 * r) (by omega) (by omega), h1 (62 + 5 * r) (by omega) (by omega), h1 (63 + 5 * r) (by omega) (by omega), oa r q, ob r q, oc r q, od r q, og r q]
      exact s11 r (by omega)
theorem up_conf {t t' f bu rp rh rc ro co co' pp ph pt pa pl : Nat → Int32} {p x : Nat} (ht : ToldOK t) (hs : SetupOK t f bu rp rh rc ro co pp ph pt pa pl) (hp : p < vN (t 1)) (hx : x < 65536)
    (h1 : ∀ k, k ≠ 139 + p → t' k = t k) (h2 : t' (139 + p) = nI x) (u0 : co' p = nI x) (u1 : ∀ j, j ≠ p → co' j = co j) : ToldOK t' ∧ SetupOK t' f bu rp rh rc ro co' pp ph pt pa pl := by
  obtain ⟨a1, a2, a3, a4, a5, a6, a7, a8, a9, a10, a11, a12⟩ := ht
  obtain ⟨s1, s2, s3, s4, s5, s6, s7, s8, s9, s10, s11⟩ := hs
  have e : ∀ k, k < 139 → t' k = t k := fun k q => h1 k (by omega)
  have e0 := e 0 (by omega)
  have e1 := e 1 (by omega)
  have e2 := e 2 (by omega)
  refine ⟨⟨fun k hk => ?_, by rw [e0]; exact a2, by rw [e1]; exact a3, by rw [e2]; exact a4, by rw [e 3 (by omega)]; exact a5, by rw [e 4 (by omega)]; exact a6, by rw [e 5 (by omega)]; exact a7, by rw [e 6 (by omega)]; exact a8, fun i hi => ?_, fun r hr => ?_, fun r hr => ?_, fun r hr => ?_⟩, by rw [e0]; exact s1, by rw [e1]; exact s2, by rw [e2]; exact s3, by rw [e 3 (by omega)]; exact s4, by rw [e 4 (by omega)]; exact s5, by rw [e 5 (by omega)]; exact s6, by rw [e 6 (by omega)]; exact s7, fun i hi => ?_, fun r hr => ?_, fun r hr => ?_, fun r hr => ?_⟩
  · by_cases q0 : k = 139 + p
    · rw [q0, h2, nI_toInt (by omega)]
      omega
    · rw [h1 k q0]
      exact a1 k hk
  · rw [e0] at hi
    rw [e (7 + i) (by omega)]
    exact a9 i hi
  · rw [e1] at hr
    rw [e0, e (11 + 4 * r) (by omega), e (12 + 4 * r) (by omega), e (13 + 4 * r) (by omega), e (14 + 4 * r) (by omega)]
    exact a10 r hr
  · rw [e2] at hr
    rw [e0, e (59 + 5 * r) (by omega), e (60 + 5 * r) (by omega), e (61 + 5 * r) (by omega), e (62 + 5 * r) (by omega), e (63 + 5 * r) (by omega)]
    exact a11 r hr
  · rw [e1]
    by_cases q : r = p
    · rw [q, h2, vN_nI (by omega)]
      exact ⟨hx, fun q => by omega⟩
    · rw [h1 (139 + r) (by omega)]
      exact a12 r hr
  · rw [e0] at hi
    rw [e (7 + i) (by omega)]
    exact s8 i hi
  · rw [e1] at hr
    rw [e (11 + 4 * r) (by omega), e (12 + 4 * r) (by omega), e (13 + 4 * r) (by omega), e (14 + 4 * r) (by omega)]
    exact s9 r hr
  · by_cases q : r = p
    · rw [q, h2, u0]
    · rw [h1 (139 + r) (by omega), u1 r q]
      exact s10 r hr
  · rw [e2] at hr
    rw [e (59 + 5 * r) (by omega), e (60 + 5 * r) (by omega), e (61 + 5 * r) (by omega), e (62 + 5 * r) (by omega), e (63 + 5 * r) (by omega)]
    exact s11 r hr
theorem up_set {t t' f f' bu rp rh rc ro co pp ph pt pa pl : Nat → Int32} {i j n : Nat} (ht : ToldOK t) (hs : SetupOK t f bu rp rh rc ro co pp ph pt pa pl) (hi : (i = 3 ∧ j = 14 ∧ 1 ≤ n ∧ n ≤ 4) ∨ (i = 4 ∧ j = 16 ∧ n ≤ 100000) ∨ (i = 5 ∧ j = 17 ∧ n ≤ 100000) ∨ (i = 6 ∧ j = 15 ∧ n ≤ 99))
    (h1 : ∀ k, t' k = if k = i then nI n else t k) (g1 : ∀ k, f' k = if k = j then nI n else f k) : ToldOK t' ∧ SetupOK t' f' bu rp rh rc ro co pp ph pt pa pl := by
  obtain ⟨a1, a2, a3, a4, a5, a6, a7, a8, a9, a10, a11, a12⟩ := ht
  obtain ⟨s1, s2, s3, s4, s5, s6, s7, s8, s9, s10, s11⟩ := hs
  have e : ∀ k, ¬ (3 ≤ k ∧ k ≤ 6) → t' k = t k := fun k q => by rw [h1, if_neg (by omega)]
  have e0 := e 0 (by omega)
  have e1 := e 1 (by omega)
  have e2 := e 2 (by omega)
  have hn : n < 2 ^ 31 := by omega
  have vv : ∀ k, vN (t' k) = if k = i then n else vN (t k) := fun k => by
    rw [h1]
    split
    · exact vN_nI hn
    · rfl
  refine ⟨⟨fun k hk => ?_, by rw [e0]; exact a2, by rw [e1]; exact a3, by rw [e2]; exact a4, ?_, ?_, ?_, ?_, fun i hi => ?_, fun r hr => ?_, fun r hr => ?_, fun r hr => ?_⟩, by rw [g1, if_neg (by omega), e0]; exact s1, by rw [g1, if_neg (by omega), e1]; exact s2, by rw [g1, if_neg (by omega), e2]; exact s3, ?_, ?_, ?_, ?_, fun i hi => ?_, fun r hr => ?_, fun r hr => ?_, fun r hr => ?_⟩
  · rw [h1]
    split
    · rw [nI_toInt hn]
      omega
    · exact a1 k hk
  · rw [vv]
    by_cases q : 3 = i
    · rw [if_pos q]; omega
    · rw [if_neg q]; exact a5
  · rw [vv]
    by_cases q : 4 = i
    · rw [if_pos q]; omega
    · rw [if_neg q]; exact a6
  · rw [vv]
    by_cases q : 5 = i
    · rw [if_pos q]; omega
    · rw [if_neg q]; exact a7
  · rw [vv]
    by_cases q : 6 = i
    · rw [if_pos q]; omega
    · rw [if_neg q]; exact a8
  · rw [e0] at hi
    rw [e (7 + i) (by omega)]
    exact a9 i hi
  · rw [e1] at hr
    rw [e0, e (11 + 4 * r) (by omega), e (12 + 4 * r) (by omega), e (13 + 4 * r) (by omega), e (14 + 4 * r) (by omega)]
    exact a10 r hr
  · rw [e2] at hr
    rw [e0, e (59 + 5 * r) (by omega), e (60 + 5 * r) (by omega), e (61 + 5 * r) (by omega), e (62 + 5 * r) (by omega), e (63 + 5 * r) (by omega)]
    exact a11 r hr
  · rw [e (139 + r) (by omega), e1]
    exact a12 r hr
  · rw [g1, h1]
    by_cases q : 3 = i
    · rw [if_pos q, if_pos (by omega)]
    · rw [if_neg q, if_neg (by omega)]; exact s4
  · rw [g1, h1]
    by_cases q : 4 = i
    · rw [if_pos q, if_pos (by omega)]
    · rw [if_neg q, if_neg (by omega)]; exact s5
  · rw [g1, h1]
    by_cases q : 5 = i
    · rw [if_pos q, if_pos (by omega)]
    · rw [if_neg q, if_neg (by omega)]; exact s6
  · rw [g1, h1]
    by_cases q : 6 = i
    · rw [if_pos q, if_pos (by omega)]
    · rw [if_neg q, if_neg (by omega)]; exact s7
  · rw [e0] at hi
    rw [e (7 + i) (by omega)]
    exact s8 i hi
  · rw [e1] at hr
    rw [e (11 + 4 * r) (by omega), e (12 + 4 * r) (by omega), e (13 + 4 * r) (by omega), e (14 + 4 * r) (by omega)]
    exact s9 r hr
  · rw [e (139 + r) (by omega)]
    exact s10 r hr
  · rw [e2] at hr
    rw [e (59 + 5 * r) (by omega), e (60 + 5 * r) (by omega), e (61 + 5 * r) (by omega), e (62 + 5 * r) (by omega), e (63 + 5 * r) (by omega)]
    exact s11 r hr
