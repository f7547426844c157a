/-! WALKS over the order -/
theorem cnt_or {P A B : Nat → Bool} : ∀ n, (∀ q, q < n → A q = true → B q = true → False) → cnt (fun q => P q && (A q || B q)) n = cnt (fun q => P q && A q) n + cnt (fun q => P q && B q) n
  | 0, _ => rfl
  | n + 1, h => by
    have ih := cnt_or (P := P) (A := A) (B := B) n (fun q hq => h q (by omega))
    have hn : ¬ (A n = true ∧ B n = true) := fun hh => h n (by omega) hh.1 hh.2
    show cnt _ n + _ = cnt _ n + _ + (cnt _ n + _)
    rw [ih]
    generalize cnt (fun q => P q && A q) n = x
    generalize cnt (fun q => P q && B q) n = y
    cases P n <;> cases ha : A n <;> cases hb : B n <;> simp [ha, hb] at hn ⊢ <;> omega
theorem cnt_one {Q : Nat → Bool} {x : Nat} {b : Bool} : ∀ n, x < n → (∀ q, q < n → Q q = (decide (q = x) && b)) → cnt Q n = if b then 1 else 0
  | 0, h, _ => by omega
  | n + 1, h, hq => by
    show cnt Q n + (if Q n then 1 else 0) = _
    by_cases e : x = n
    · subst e
      rw [hq x (by omega), decide_eq_true rfl, Bool.true_and]
      have : cnt Q x = 0 := by
        have z : ∀ k, k ≤ x → cnt Q k = 0 := by
          intro k
          induction k with
          | zero => intro _; rfl
          | succ k ih =>
            intro hk
            show cnt Q k + (if Q k then 1 else 0) = 0
            rw [ih (by omega), hq k (by omega), decide_eq_false (by omega)]
            rfl
        exact z x (Nat.le_refl _)
      rw [this]
      omega
    · rw [cnt_one (Q := Q) (x := x) (b := b) n (by omega) (fun q hq' => hq q (by omega)), hq n (by omega), decide_eq_false (by omega), Bool.false_and]
      rfl
def oOK (rn : Nat → Bool) (bf : Nat → Nat → Bool) (n : Nat) (o : Nat → Nat) : Prop := ∀ j, j < cnt rn n → o j < n ∧ rn (o j) = true ∧ rk rn bf n (o j) = j
theorem rk_inj {rn : Nat → Bool} {bf : Nat → Nat → Bool} (irr : ∀ a, bf a a = false) (tr : ∀ a b c, bf a b = true → bf b c = true → bf a c = true) (tot : ∀ a b, a ≠ b → bf a b = !bf b a) {n p q : Nat} (hp : p < n) (hq : q < n) (rp : rn p = true) (rq : rn q = true) : (bf q p = true ↔ rk rn bf n q < rk rn bf n p) ∧ (rk rn bf n q = rk rn bf n p → q = p) := by
  have key : ∀ a b, a < n → rn a = true → bf a b = true → rk rn bf n a < rk rn bf n b := fun a b ha hr h => rk_bf irr tr ha hr h
  refine ⟨⟨fun h => key q p hq rq h, fun h => ?_⟩, fun h => ?_⟩
  · by_cases e : q = p
    · subst e
      omega
    · rw [tot q p e]
      cases hb : bf p q
      · rfl
      · have := key p q hp rp hb
        omega
  · apply Classical.byContradiction
    intro e
    have ht := tot q p e
    cases hb : bf p q
    · rw [hb] at ht
      have := key q p hq rq ht
      omega
    · have := key p q hp rp hb
      omega
theorem walk {rn : Nat → Bool} {bf : Nat → Nat → Bool} (irr : ∀ a, bf a a = false) (tr : ∀ a b c, bf a b = true → bf b c = true → bf a c = true) (tot : ∀ a b, a ≠ b → bf a b = !bf b a) {n : Nat} {o : Nat → Nat} (ho : oOK rn bf n o) (P : Nat → Bool) : ∀ i, i ≤ cnt rn n → cnt (fun j => P (o j)) i = cnt (fun q => (rn q && P q) && decide (rk rn bf n q < i)) n
  | 0, _ => by
    have z : ∀ k, cnt (fun q => (rn q && P q) && decide (rk rn bf n q < 0)) k = 0 := by
      intro k
      induction k with
      | zero => rfl
      | succ k ih =>
        show cnt _ k + _ = 0
        rw [ih]
        simp
    rw [z]
    rfl
  | i + 1, hi => by
    obtain ⟨h1, h2, h3⟩ := ho i (by omega)
    have e : (fun q => (rn q && P q) && decide (rk rn bf n q < i + 1)) = (fun q => (rn q && P q) && (decide (rk rn bf n q < i) || decide (rk rn bf n q = i))) := by
      funext q
      congr 1
      by_cases h : rk rn bf n q < i
      · rw [decide_eq_true h, decide_eq_true (by omega), Bool.true_or]
      · by_cases h' : rk rn bf n q = i
        · rw [decide_eq_false h, decide_eq_true h', decide_eq_true (by omega)]
          rfl
        · rw [decide_eq_false h, decide_eq_false h', decide_eq_false (by omega)]
          rfl
    rw [e, cnt_or n (fun q _ a b => by simp at a b; omega), ← walk irr tr tot ho P i (by omega)]
    show cnt _ i + _ = _
    congr 1
    rw [cnt_one (x := o i) (b := P (o i)) n h1 (fun q hq => ?_)]
    by_cases hqo : q = o i
    · rw [hqo, h2, decide_eq_true h3, decide_eq_true rfl]
      simp
    · rw [decide_eq_false hqo, Bool.false_and]
      cases hr : rn q
      · rfl
      · rw [decide_eq_false, Bool.and_false]
        intro hk
        exact hqo ((rk_inj irr tr tot h1 hq h2 hr).2 (by rw [hk, h3]))
theorem walk_rk {rn : Nat → Bool} {bf : Nat → Nat → Bool} (irr : ∀ a, bf a a = false) (tr : ∀ a b c, bf a b = true → bf b c = true → bf a c = true) (tot : ∀ a b, a ≠ b → bf a b = !bf b a) {n : Nat} {o : Nat → Nat} (ho : oOK rn bf n o) (P : Nat → Bool) {i : Nat} (hi : i < cnt rn n) : cnt (fun j => P (o j)) i = rk (fun q => rn q && P q) bf n (o i) := by
  obtain ⟨h1, h2, h3⟩ := ho i hi
  rw [walk irr tr tot ho P i (by omega)]
  refine cnt_congr n (fun q hq => ?_)
  show ((rn q && P q) && _) = ((rn q && P q) && bf q (o i))
  cases hr : rn q
  · rfl
  · have h := (rk_inj irr tr tot h1 hq h2 hr).1
    rw [h3] at h
    congr 1
    by_cases hl : rk rn bf n q < i
    · rw [decide_eq_true hl, h.mpr hl]
    · rw [decide_eq_false hl]
      cases hb : bf q (o i)
      · rfl
      · exact absurd (h.mp hb) hl
/-- each one that is in stands at its place -/
theorem walk_at {rn : Nat → Bool} {bf : Nat → Nat → Bool} (irr : ∀ a, bf a a = false) (tr : ∀ a b c, bf a b = true → bf b c = true → bf a c = true) (tot : ∀ a b, a ≠ b → bf a b = !bf b a) {n : Nat} {o : Nat → Nat} (ho : oOK rn bf n o) {p : Nat} (hp : p < n) (hr : rn p = true) : rk rn bf n p < cnt rn n ∧ o (rk rn bf n p) = p := by
  have hl := rk_lt (rn := rn) (bf := bf) irr hp hr
  obtain ⟨h1, h2, h3⟩ := ho _ hl
  exact ⟨hl, (rk_inj irr tr tot hp h1 hr h2).2 h3⟩
/-- the first that is -/
def ff (Q : Nat → Bool) : Nat → Nat → Option Nat
  | 0, _ => none
  | d + 1, i => if Q i then some i else ff Q d (i + 1)
theorem ff_some {Q : Nat → Bool} : ∀ d i k, ff Q d i = some k → i ≤ k ∧ k < i + d ∧ Q k = true
  | 0, _, _, h => by cases h
  | d + 1, i, k, h => by
    unfold ff at h
    cases hq : Q i
    · rw [hq, if_neg (by decide)] at h
      have := ff_some d (i + 1) k h
      exact ⟨by omega, by omega, this.2.2⟩
    · rw [hq, if_pos rfl] at h
      cases h
      exact ⟨by omega, by omega, hq⟩
theorem ff_none {Q : Nat → Bool} : ∀ d i, ff Q d i = none → ∀ k, i ≤ k → k < i + d → Q k = false
  | 0, _, _, _, _, _ => by omega
  | d + 1, i, h, k, h1, h2 => by
    unfold ff at h
    cases hq : Q i
    · rw [hq, if_neg (by decide)] at h
      by_cases e : k = i
      · rw [e]
        exact hq
      · exact ff_none d (i + 1) h k (by omega) (by omega)
    · rw [hq, if_pos rfl] at h
      cases h
theorem fi_some' {P : Nat → Bool} {v : Int32} {k : Nat} : ∀ d i, fi P v d i (cnt P i) = some k → i ≤ k ∧ k < i + d ∧ P k = true ∧ nI (cnt P k) = v
  | 0, _, h => by cases h
  | d + 1, i, h => by
    rw [fi_succ] at h
    cases hp : P i
    · rw [hp, if_neg (by decide)] at h
      have := fi_some' (P := P) (v := v) (k := k) d (i + 1) (by rw [cnt_s, hp]; exact h)
      exact ⟨by omega, by omega, this.2.2⟩
    · rw [hp, if_pos rfl] at h
      by_cases hv : nI (cnt P i) = v
      · rw [if_pos hv] at h
        cases h
        exact ⟨by omega, by omega, hp, hv⟩
      · rw [if_neg hv] at h
        have := fi_some' (P := P) (v := v) (k := k) d (i + 1) (by rw [cnt_s, hp]; exact h)
        exact ⟨by omega, by omega, this.2.2⟩
theorem fi_none' {P : Nat → Bool} {v : Int32} : ∀ d i, fi P v d i (cnt P i) = none → ∀ k, i ≤ k → k < i + d → P k = true → ¬ nI (cnt P k) = v
  | 0, _, _, k, h1, h2, _ => by omega
  | d + 1, i, h, k, h1, h2, hk => by
    rw [fi_succ] at h
    have next : fi P v d (i + 1) (cnt P (i + 1)) = none → k ≠ i → ¬ nI (cnt P k) = v := fun h' e => fi_none' d (i + 1) h' k (by omega) (by omega) hk
    cases hp : P i
    · rw [hp, if_neg (by decide)] at h
      exact next (by rw [cnt_s, hp]; exact h) (fun e => by rw [e, hp] at hk; cases hk)
    · rw [hp, if_pos rfl] at h
      by_cases hv : nI (cnt P i) = v
      · rw [if_pos hv] at h
        cases h
      · rw [if_neg hv] at h
        by_cases e : k = i
        · rw [e]
          exact hv
        · exact next (by rw [cnt_s, hp]; exact h) e
/-- what OrdOK says of the order, for the lemmas on walks -/
theorem OrdOK.o {M : Mem} {n : Nat} (h : OrdOK M n) : oOK (rn M) (bf M) n (od M) := fun j hj => ⟨(h.2 j hj).1, (h.2 j hj).2.1, (h.2 j hj).2.2.1⟩
theorem c_ranked_go {N : Nat} {M : Mem} (h : Rel M) (ho : OrdOK M (nQ M)) (pa v : Int32) : ∀ d n i, i + d = cnt (rn M) (nQ M) → d < n →
    L_X9_ranked_30 N n pa v (nI (cnt (fun j => inP M pa (od M j)) i)) (nI i) M = some (match fi (fun j => inP M pa (od M j)) v d i (cnt (fun j => inP M pa (od M j)) i) with | none => .inl M | some k => .inr (nI (od M k), M)) := by
  have hQ := h.b.Q.2
  have hc := cnt_le (rn M) (nQ M)
  intro d
  induction d with
  | zero =>
    intro n i hi hn
    obtain ⟨n, rfl⟩ : ∃ k, n = k + 1 := ⟨n - 1, by omega⟩
    show T_X9_ranked_30 N (L_X9_ranked_30 N n) _ _ _ _ _ = _
    unfold T_X9_ranked_30
    rw [ho.1, if_pos (nI_le (by omega) (by omega))]
    rfl
  | succ d ih =>
    intro n i hi hn
    obtain ⟨n, rfl⟩ : ∃ k, n = k + 1 := ⟨n - 1, by omega⟩
    obtain ⟨o1, o2, o3, o4⟩ := ho.2 i (by omega)
    have ihn := ih n (i + 1) (by omega) (by omega)
    have h73 : B_X9_ranked_73 N (L_X9_ranked_30 N n) pa v (nI (cnt (fun j => inP M pa (od M j)) i)) (nI i) (nI (od M i)) M = if nI (cnt (fun j => inP M pa (od M j)) i) = v then some (.inr (nI (od M i), M)) else L_X9_ranked_30 N n pa v (nI (cnt (fun j => inP M pa (od M j)) i + 1)) (nI (i + 1)) M := by
      unfold B_X9_ranked_73
      rw [nI_1, nI_1]
    rw [fi_succ]
    show T_X9_ranked_30 N (L_X9_ranked_30 N n) _ _ _ _ _ = _
    unfold T_X9_ranked_30
    rw [ho.1, if_neg (nI_ge (by omega) (by omega)), gd_t (inb_nI (by omega) (by omega)), nI_clamp (by omega), o4, h73, gd_t (st_k h.b.s), gd_t (st_ok h.b.s (by omega) (by omega) (show od M i < 16 by omega)), st_rt h.b.s (by omega) (by omega), nI_clamp (by omega), show gI M (gR M 0 7 + (9 - 2)) (od M i) = gI M 96 (59 + 5 * od M i) from (h.b.rowP o1).1, nI_1]
    have hyes : inP M pa (od M i) = true → (if nI (cnt (fun j => inP M pa (od M j)) i) = v then some (.inr (nI (od M i), M)) else L_X9_ranked_30 N n pa v (nI (cnt (fun j => inP M pa (od M j)) i + 1)) (nI (i + 1)) M) = some (match (if inP M pa (od M i) = true then if nI (cnt (fun j => inP M pa (od M j)) i) = v then some i else fi (fun j => inP M pa (od M j)) v d (i + 1) (cnt (fun j => inP M pa (od M j)) i + 1) else fi (fun j => inP M pa (od M j)) v d (i + 1) (cnt (fun j => inP M pa (od M j)) i)) with | none => .inl M | some k => .inr (nI (od M k), M)) := by
      intro hin
      rw [cnt_s, if_pos hin] at ihn
      rw [if_pos hin]
      by_cases hv : nI (cnt (fun j => inP M pa (od M j)) i) = v
      · rw [if_pos hv, if_pos hv]
      · rw [if_neg hv, if_neg hv]
        exact ihn
    by_cases hpa : pa = -1
    · rw [if_pos hpa]
      exact hyes (by unfold inP; rw [decide_eq_true hpa, Bool.true_or])
    · rw [if_neg hpa]
      by_cases he : gI M 96 (59 + 5 * od M i) = pa
      · rw [if_pos he]
        exact hyes (by unfold inP; rw [decide_eq_true he, Bool.or_true])
      · have hno : inP M pa (od M i) = false := by unfold inP; rw [decide_eq_false he, decide_eq_false hpa]; rfl
        rw [if_neg he, if_neg (by rw [hno]; decide)]
        rw [cnt_s, if_neg (by rw [hno]; decide), Nat.add_zero] at ihn
        exact ihn
theorem m_ranked_go {N : Nat} (hN : 17 < N) {m : Mem} (h : Rel m) (pa v : Int32) : ∀ d n i, i + d = nQ m → d < n →
    L_X10_rankedIn_2 N n pa v (nI i) m = some (match ff (fun p => (rn m p && inP m pa p) && decide (nI (rk (fun q => rn m q && inP m pa q) (bf m) (nQ m) p) = v)) d i with | none => .inl m | some k => .inr (nI k, m)) := by
  have hQ := h.b.Q.2
  intro d
  induction d with
  | zero =>
    intro n i hi hn
    obtain ⟨n, rfl⟩ : ∃ k, n = k + 1 := ⟨n - 1, by omega⟩
    show T_X10_rankedIn_2 N (L_X10_rankedIn_2 N n) _ _ _ _ = _
    unfold T_X10_rankedIn_2
    rw [h.b.Q.1, if_pos (nI_le (by omega) (by omega))]
    rfl
  | succ d ih =>
    intro n i hi hn
    obtain ⟨n, rfl⟩ : ∃ k, n = k + 1 := ⟨n - 1, by omega⟩
    have ihn := ih n (i + 1) (by omega) (by omega)
    show T_X10_rankedIn_2 N (L_X10_rankedIn_2 N n) _ _ _ _ = some (match (if (rn m i && inP m pa i) && decide (nI (rk (fun q => rn m q && inP m pa q) (bf m) (nQ m) i) = v) then some i else ff _ d (i + 1)) with | none => .inl m | some k => .inr (nI k, m))
    unfold T_X10_rankedIn_2
    rw [h.b.Q.1, if_neg (nI_ge (by omega) (by omega)), b2_of (m_isRanked (by omega) h (by omega))]
    have h39 : B_X10_rankedIn_39 N (L_X10_rankedIn_2 N n) pa v (nI i) m = L_X10_rankedIn_2 N n pa v (nI (i + 1)) m := by
      unfold B_X10_rankedIn_39 B_X10_rankedIn_40
      rw [if_pos rfl, nI_1]
    cases hr : rn m i
    · rw [if_pos (by rfl), h39, Bool.false_and, Bool.false_and, if_neg (by decide)]
      exact ihn
    · have h35 : B_X10_rankedIn_35 N (L_X10_rankedIn_2 N n) pa v (nI i) m = if nI (rk (fun q => rn m q && inP m pa q) (bf m) (nQ m) i) = v then some (.inr (nI i, m)) else L_X10_rankedIn_2 N n pa v (nI (i + 1)) m := by
        unfold B_X10_rankedIn_35 B_X10_rankedIn_40
        rw [if_neg (by decide), b2_of (m_rankIn hN h pa (by omega) hr), nI_1]
      rw [if_neg (by decide), Bool.true_and]
      have hin : inP m pa i = (decide (pa = -1) || decide (gI m 96 (59 + 5 * i) = pa)) := rfl
      have hyes : inP m pa i = true → B_X10_rankedIn_35 N (L_X10_rankedIn_2 N n) pa v (nI i) m = some (match (if inP m pa i && decide (nI (rk (fun q => rn m q && inP m pa q) (bf m) (nQ m) i) = v) then some i else ff (fun p => (rn m p && inP m pa p) && decide (nI (rk (fun q => rn m q && inP m pa q) (bf m) (nQ m) p) = v)) d (i + 1)) with | none => .inl m | some k => .inr (nI k, m)) := by
        intro hi1
        rw [h35, hi1, Bool.true_and]
        by_cases hv : nI (rk (fun q => rn m q && inP m pa q) (bf m) (nQ m) i) = v
        · rw [if_pos hv, if_pos (decide_eq_true hv)]
        · rw [if_neg hv, if_neg (fun e => hv (of_decide_eq_true e))]
          exact ihn
      by_cases hpa : pa = -1
      · rw [if_pos hpa]
        exact hyes (by rw [hin, decide_eq_true hpa, Bool.true_or])
      · rw [if_neg hpa, show (0 : Int32) = nI 0 from rfl, b2_of (m_proposal N (by omega) (by omega) m), show gI m 96 (59 + 0 + 5 * i) = gI m 96 (59 + 5 * i) from rfl]
        by_cases he : gI m 96 (59 + 5 * i) = pa
        · rw [if_pos he]
          exact hyes (by rw [hin, decide_eq_true he, Bool.or_true])
        · rw [if_neg he, h39, hin, decide_eq_false he, decide_eq_false hpa]
          exact ihn
theorem op_ranked {N : Nat} (hN : 17 < N) : Op_ranked N := by
  intro m hR pa v
  by_cases hpan : pa = -1 ∨ inR pa (nP m) = true
  · obtain ⟨M, e1, u, e2, e3, e4⟩ := c_update hN hR
    have hM := hR.core u.core
    have hQM := hM.b.Q.2
    have ho : OrdOK M (nQ M) := by rw [u.q]; exact e4
    have hcl := cnt_le (rn M) (nQ M)
    have hgo := c_ranked_go (N := N) hM ho pa v (cnt (rn M) (nQ M)) N 0 (by omega) (by omega)
    have hw : ∀ k, k < cnt (rn M) (nQ M) → cnt (fun j => inP M pa (od M j)) k = rk (fun q => rn M q && inP M pa q) (bf M) (nQ M) (od M k) := fun k hk => walk_rk (bf_irr M) (bf_tr M) (fun a b => bf_tot M) ho.o (inP M pa) hk
    have hpre : ∀ X, X = (f_X9_ranked N pa v m) → X = B_X9_ranked_10 N pa v m := by
      intro X hX
      rw [hX]
      unfold f_X9_ranked
      by_cases h1 : pa = -1
      · rw [if_pos h1]
      · rw [if_neg h1, x1_of (by rw [c_checkPanel N hR.b, if_pos (hpan.resolve_left h1)])]
    have hpre := hpre _ rfl
    have hmod : ∀ Z, Rel Z → SV M Z → f_X10_ranked N pa v Z = b2 (f_X10_rankedIn N pa v (sI Z 95 0 0)) (fun r_2 m_2 => B_X10_ranked_39 N r_2 m_2) := by
      intro Z hZ vz
      unfold f_X10_ranked B_X10_ranked_18 B_X10_ranked_19
      by_cases h1 : pa = -1
      · rw [if_pos h1, rs_ok]
      · rw [if_neg h1, b2_of (m_isPanel N hZ.b pa), vz.p, u.v.p, if_pos (hpan.resolve_left h1), if_neg (by decide), rs_ok]
    cases hf : fi (fun j => inP M pa (od M j)) v (cnt (rn M) (nQ M)) 0 (cnt (fun j => inP M pa (od M j)) 0) with
    | none =>
      rw [hf] at hgo
      have hnone := fi_none' _ _ hf
      have hZ : Rel (sI M 95 0 0) := hM.core (Core.sI95 (by omega))
      have vz : SV M (sI M 95 0 0) := ⟨sI_ne _ _ (by omega), sI_ne _ _ (by omega)⟩
      have hmg := m_ranked_go hN hZ pa v (nQ (sI M 95 0 0)) N 0 (by omega) (by rw [vz.q]; omega)
      rw [vz.zrn, vz.zinP, vz.zbf, vz.q] at hmg
      cases hff : ff (fun p => (rn M p && inP M pa p) && decide (nI (rk (fun q => rn M q && inP M pa q) (bf M) (nQ M) p) = v)) (nQ M) 0 with
      | some p =>
        exfalso
        obtain ⟨_, p2, p3⟩ := ff_some _ _ _ hff
        simp only [Bool.and_eq_true, decide_eq_true_eq] at p3
        obtain ⟨w1, w2⟩ := walk_at (bf_irr M) (bf_tr M) (fun a b => bf_tot M) ho.o (show p < nQ M by omega) p3.1.1
        have := hnone (rk (rn M) (bf M) (nQ M) p) (Nat.zero_le _) (by omega) (by show inP M pa (od M (rk (rn M) (bf M) (nQ M) p)) = true; rw [w2]; exact p3.1.2)
        apply this
        rw [hw _ w1, w2]
        exact p3.2
      | none =>
        rw [hff] at hmg
        refine OpI.updno hR u (v := 1) (w := 0) (by decide) ?_ ?_
        · unfold f_L_ranked
          rw [hpre]
          unfold B_X9_ranked_10
          rw [b1_of e1, show L_X9_ranked_30 N N pa v 0 0 M = _ from hgo]
          rfl
        · rw [hmod M hM ⟨rfl, rfl⟩]
          have : f_X10_rankedIn N pa v (sI M 95 0 0) = some (-1, sI M 95 0 0) := by
            unfold f_X10_rankedIn
            rw [show L_X10_rankedIn_2 N N pa v 0 (sI M 95 0 0) = _ from hmg]
            rfl
          rw [b2_of this]
          unfold B_X10_ranked_39
          rw [if_pos rfl]
          show some ((0 : Int32), sI (sI M 95 0 0) 95 0 1) = _
          rw [sI_sI]
    | some k =>
      rw [hf] at hgo
      obtain ⟨_, k2, k3, k4⟩ := fi_some' _ _ hf
      have hk : k < cnt (rn M) (nQ M) := by omega
      obtain ⟨o1, o2, o3, o4⟩ := ho.2 k hk
      refine OpI.upd hR u (b := nI (od M k)) ?_ ?_
      · unfold f_L_ranked
        rw [hpre]
        unfold B_X9_ranked_10
        rw [b1_of e1, show L_X9_ranked_30 N N pa v 0 0 M = _ from hgo]
        rfl
      · generalize (nI (od M k)).toInt64 = w
        have v0 := Y0.v M w 0
        have hY := Y0.rel hM w 0
        have hmg := m_ranked_go hN hY pa v (nQ (Y0 M w 0)) N 0 (by omega) (by rw [v0.q]; omega)
        rw [v0.zrn, v0.zinP, v0.zbf, v0.q] at hmg
        have hQk : ((rn M (od M k) && inP M pa (od M k)) && decide (nI (rk (fun q => rn M q && inP M pa q) (bf M) (nQ M) (od M k)) = v)) = true := by
          rw [o2, show inP M pa (od M k) = true from k3, ← hw k hk, decide_eq_true k4]
          rfl
        have hff : ff (fun p => (rn M p && inP M pa p) && decide (nI (rk (fun q => rn M q && inP M pa q) (bf M) (nQ M) p) = v)) (nQ M) 0 = some (od M k) := by
          cases hff : ff (fun p => (rn M p && inP M pa p) && decide (nI (rk (fun q => rn M q && inP M pa q) (bf M) (nQ M) p) = v)) (nQ M) 0 with
          | none =>
            have := ff_none _ _ hff (od M k) (by omega) (by omega)
            rw [hQk] at this
            cases this
          | some p =>
            obtain ⟨_, p2, p3⟩ := ff_some _ _ _ hff
            simp only [Bool.and_eq_true, decide_eq_true_eq] at p3
            have hinj := (rk_inj (rn := fun q => rn M q && inP M pa q) (bf := bf M) (bf_irr M) (bf_tr M) (fun a b => bf_tot M) (n := nQ M) (p := od M k) (q := p) o1 (by omega) (by rw [o2, show inP M pa (od M k) = true from k3]; rfl) (by rw [p3.1.1, p3.1.2]; rfl)).2
            rw [hinj]
            have e : nI (rk (fun q => rn M q && inP M pa q) (bf M) (nQ M) p) = nI (rk (fun q => rn M q && inP M pa q) (bf M) (nQ M) (od M k)) := by
              rw [p3.2, ← hw k hk, k4]
            have b1 : rk (fun q => rn M q && inP M pa q) (bf M) (nQ M) p ≤ nQ M := cnt_le _ _
            have b2 : rk (fun q => rn M q && inP M pa q) (bf M) (nQ M) (od M k) ≤ nQ M := cnt_le _ _
            exact (nI_eq (by omega) (by omega)).mp e
        rw [hff] at hmg
        rw [hmod (sJ M 108 0 w) (hM.core Core.sJ') ⟨rfl, rfl⟩]
        change b2 (f_X10_rankedIn N pa v (Y0 M w 0)) _ = _
        have : f_X10_rankedIn N pa v (Y0 M w 0) = some (nI (od M k), Y0 M w 0) := by
          unfold f_X10_rankedIn
          rw [show L_X10_rankedIn_2 N N pa v 0 (Y0 M w 0) = _ from hmg]
          rfl
        rw [b2_of this]
        unfold B_X10_ranked_39
        rw [if_neg]
        intro e
        exact nI_pos (n := od M k) (by omega) (by rw [e]; decide)
  · have h1 : ¬ pa = -1 := fun e => hpan (Or.inl e)
    have h2 : ¬ inR pa (nP m) = true := fun e => hpan (Or.inr e)
    refine OpI.no hR (v := 1) (w := 0) (by decide) ?_ ?_ (Or.inl rfl)
    · unfold f_L_ranked f_X9_ranked
      rw [if_neg h1, x1_th (by rw [c_checkPanel N hR.b, if_neg h2])]
      rfl
    · unfold f_X10_ranked B_X10_ranked_19 B_X10_ranked_39
      rw [if_neg h1, b2_of (m_isPanel N hR.b pa), if_neg h2, if_pos rfl, rs_no _ (by decide), if_neg (by decide)]
