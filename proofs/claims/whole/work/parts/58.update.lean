/-! THE CLASS'S RANKING: update -/
theorem l6_of {a b c d e β : Type} {x : Option (a × b × c × d × e × Mem)} {K : a → b → c → d → e → Mem → Option β} {y : a} {z : b} {u : c} {v : d} {w : e} {m : Mem} (h : x = some (y, z, u, v, w, m)) : l6 x K = K y z u v w m := by rw [h]; rfl
def UpdE (m M : Mem) : Prop := (∀ k, ¬ (38 ≤ k ∧ k ≤ 47) → gI M k = gI m k) ∧ (∀ k j, gR M k j = gR m k j) ∧ (∀ k j, gJ M k j = gJ m k j) ∧ (∀ k j, gD M k j = gD m k j)
theorem UpdE.refl (m : Mem) : UpdE m m := ⟨fun _ _ => rfl, fun _ _ => rfl, fun _ _ => rfl, fun _ _ => rfl⟩
theorem UpdE.trans {a b c : Mem} (h : UpdE a b) (h' : UpdE b c) : UpdE a c := ⟨fun k hk => (h'.1 k hk).trans (h.1 k hk), fun k j => (h'.2.1 k j).trans (h.2.1 k j), fun k j => (h'.2.2.1 k j).trans (h.2.2.1 k j), fun k j => (h'.2.2.2 k j).trans (h.2.2.2 k j)⟩
theorem UpdE.sI (m : Mem) {k j : Nat} {v : Int32} (hk : 38 ≤ k ∧ k ≤ 47) : UpdE m (sI m k j v) := ⟨fun k' hk' => sI_ne _ _ (by omega), fun _ _ => rfl, fun _ _ => rfl, fun _ _ => rfl⟩
theorem UpdE.core {m M : Mem} (h : UpdE m M) : Core m M := by
  refine ⟨fun k hk => h.1 k (by omega), fun j _ => by rw [h.1 1 (by omega)], fun j _ => by rw [h.1 95 (by omega)], h.2.1 0 7, h.2.1 0 8, fun hc => ?_⟩
  unfold ChOK ChAt at *
  simp only [h.2.1]
  exact hc
theorem UpdE.zsv {m M : Mem} (h : UpdE m M) : sv M = sv m := by
  funext r p
  unfold sv
  rw [h.1 98 (by omega)]
theorem Rel.sN {m : Mem} (h : Rel m) : sN (sv m) := fun _ hr _ hp => (h.sv_c hr hp).2.1
theorem c_measR {N : Nat} (hN : 16 < N) {m : Mem} (h : Rel m) {r : Nat} (hr : r < 12) : f_X5_measureReviewer N (nI r) m = some (sI (sI (sI m 39 r (nI (gv (sv m) r))) 40 r (nI (tl (sv m) r))) 41 r (nI (dv (sv m) r))) := by
  have hs := h.sN
  have h1 : L_X5_measureReviewer_8 N N (nI r) 0 0 0 m = some (nI r, nI (gv (sv m) r), nI (tl (sv m) r), m) := by
    refine loop_fn (fun n i => L_X5_measureReviewer_8 N n (nI r) (nI (cnt (fun k => decide (¬ sv m r k = 0)) i)) (nI (sm (sv m r) i)) (nI i) m) 16 _ (fun n i hi => ?_) (fun n => ?_) 16 N 0 rfl hN
    · show T_X5_measureReviewer_8 N (L_X5_measureReviewer_8 N n) _ _ _ _ _ = L_X5_measureReviewer_8 N n _ _ _ _ _
      unfold T_X5_measureReviewer_8
      rw [if_neg (show ¬ (16 : Int32) ≤ nI i from nI_ge (b := 16) hi (by omega)), b2_of (c_hasSc N h hr hi), nI_1]
      simp only [cnt, sm]
      by_cases hz : sv m r i = 0
      · rw [if_pos hz, if_pos rfl]
        simp [hz]
      · rw [if_neg hz, if_neg (by decide), b2_of (c_sv N h hr hi hz), nI_add, nI_1]
        simp [hz]
    · show T_X5_measureReviewer_8 N (L_X5_measureReviewer_8 N n) _ _ _ _ _ = _
      unfold T_X5_measureReviewer_8
      rw [if_pos (show (16 : Int32) ≤ nI 16 by decide)]
      rfl
  have h2 : L_X5_measureReviewer_52 N N (nI r) (nI (gv (sv m) r)) (nI (tl (sv m) r)) 0 0 m = some (nI r, nI (gv (sv m) r), nI (tl (sv m) r), nI (dv (sv m) r), m) := by
    refine loop_fn (fun n i => L_X5_measureReviewer_52 N n (nI r) (nI (gv (sv m) r)) (nI (tl (sv m) r)) (nI (sm (fun k => if sv m r k = 0 then 0 else (off (sv m) r k).natAbs) i)) (nI i) m) 16 _ (fun n i hi => ?_) (fun n => ?_) 16 N 0 rfl hN
    · show T_X5_measureReviewer_52 N (L_X5_measureReviewer_52 N n) _ _ _ _ _ _ = L_X5_measureReviewer_52 N n _ _ _ _ _ _
      unfold T_X5_measureReviewer_52
      rw [if_neg (show ¬ (16 : Int32) ≤ nI i from nI_ge (b := 16) hi (by omega)), b2_of (c_hasSc N h hr hi), nI_1]
      simp only [sm]
      by_cases hz : sv m r i = 0
      · rw [if_pos hz, if_pos rfl, if_pos hz]
        simp
      · rw [if_neg hz, if_neg (by decide), b2_of (c_sv N h hr hi hz), off_z, if_neg hz]
        have ho := off_le hs hr hi
        have := (zabs (x := off (sv m) r i) (by unfold zB; omega) id).1
        simp only [id] at this
        rw [this, nI_add]
    · show T_X5_measureReviewer_52 N (L_X5_measureReviewer_52 N n) _ _ _ _ _ _ = _
      unfold T_X5_measureReviewer_52
      rw [if_pos (show (16 : Int32) ≤ nI 16 by decide)]
      rfl
  unfold f_X5_measureReviewer
  rw [l4_of h1, l5_of h2, gd_t (inb_nI hr (by omega)), nI_clamp (by omega)]
  rfl
def RowR (M : Mem) (n : Nat) : Prop := ∀ r, r < n → gI M 39 r = nI (gv (sv M) r) ∧ gI M 40 r = nI (tl (sv M) r) ∧ gI M 41 r = nI (dv (sv M) r)
theorem c_upd1 {N : Nat} (hN : 16 < N) : ∀ d n i m, Rel m → i + d = nR m → d < n → RowR m i → ∃ M, L_X5_update_2 N n (gR m 0 7) (nI i) m = some (gR m 0 7, M) ∧ UpdE m M ∧ RowR M (nR m) := by
  intro d
  induction d with
  | zero =>
    intro n i m h hi hn hr
    have hR := h.b.R.2
    obtain ⟨n, rfl⟩ : ∃ k, n = k + 1 := ⟨n - 1, by omega⟩
    refine ⟨m, ?_, UpdE.refl m, by rw [← hi]; exact hr⟩
    show T_X5_update_2 N (L_X5_update_2 N n) _ _ _ = _
    unfold T_X5_update_2
    rw [gd_t (st_k h.b.s), h.b.cR, if_pos (nI_le (by omega) (by omega))]
  | succ d ih =>
    intro n i m h hi hn hr
    have hR := h.b.R.2
    obtain ⟨n, rfl⟩ : ∃ k, n = k + 1 := ⟨n - 1, by omega⟩
    have he : UpdE m (sI (sI (sI m 39 i (nI (gv (sv m) i))) 40 i (nI (tl (sv m) i))) 41 i (nI (dv (sv m) i))) := ((UpdE.sI _ (by omega)).trans (UpdE.sI _ (by omega))).trans (UpdE.sI _ (by omega))
    have hc := c_measR hN h (show i < 12 by omega)
    generalize hM1 : sI (sI (sI m 39 i (nI (gv (sv m) i))) 40 i (nI (tl (sv m) i))) 41 i (nI (dv (sv m) i)) = M1 at he hc
    have h1 := h.core he.core
    have e7 : gR M1 0 7 = gR m 0 7 := he.2.1 0 7
    have eR : nR M1 = nR m := by unfold nR; rw [he.1 96 (by omega)]
    obtain ⟨M, a1, a2, a3⟩ := ih n (i + 1) M1 h1 (by omega) (by omega) (fun r hr' => by
      rw [he.zsv]
      by_cases hri : r = i
      · subst hri
        rw [← hM1]
        refine ⟨?_, ?_, ?_⟩
        · rw [gI_sI, if_neg (by omega), gI_sI, if_neg (by omega), gI_sI, if_pos ⟨rfl, rfl⟩]
        · rw [gI_sI, if_neg (by omega), gI_sI, if_pos ⟨rfl, rfl⟩]
        · rw [gI_sI, if_pos ⟨rfl, rfl⟩]
      · have := hr r (by omega)
        rw [← hM1]
        simp only [gI_sI, hri, and_false, if_false]
        exact this)
    rw [e7] at a1
    rw [eR] at a3
    refine ⟨M, ?_, he.trans a2, a3⟩
    show T_X5_update_2 N (L_X5_update_2 N n) _ _ _ = _
    unfold T_X5_update_2
    rw [gd_t (st_k h.b.s), h.b.cR, if_neg (nI_ge (by omega) (by omega)), b1_of hc, nI_1]
    exact a1
theorem c_floor (N : Nat) {a : Int} {b : Nat} (ha : zB a) (h0 : 0 < b) (hb : b < 2 ^ 31) (m : Mem) : f_J9_floorDiv_7cf53 N (zI a) (nI b) m = some (zI (a / b), m) := by
  unfold f_J9_floorDiv_7cf53
  rw [gd_t (by simp; exact nI_ne0 (by omega) hb)]
  exact fl_c ha h0 hb (fun x => some (x, m))
theorem m_down (N : Nat) {a : Int} {b : Nat} (ha : zL a) (h0 : 0 < b) (hb : b < 2 ^ 31) (m : Mem) : f_X10_down N (Int64.ofInt a) (Int64.ofInt b) m = some (zI (a / b), m) := by
  unfold f_X10_down
  rw [gd_t (by
    simp
    intro h
    have := congrArg Int64.toInt h
    rw [lI_toInt (by unfold zL; omega)] at this
    have e0 : (0 : Int64).toInt = 0 := rfl
    omega)]
  exact fl_m ha h0 hb (fun x => some (x, m))
theorem c_adj (N : Nat) {m : Mem} (hs : sN (sv m)) {r p : Nat} (hr : r < 12) (hp : p < 16) (hw : gI m 39 r = nI (gv (sv m) r) ∧ gI m 40 r = nI (tl (sv m) r) ∧ gI m 41 r = nI (dv (sv m) r)) : f_X5_adjustedScore N (nI r) (nI (sv m r p)) m = some (zI (aj (sv m) r p), m) := by
  obtain ⟨w1, w2, w3⟩ := hw
  have hd := dv_le hs hr
  have hu := nu_le hs hr hp
  unfold f_X5_adjustedScore
  rw [gd_t (inb_nI hr (by omega)), nI_clamp (by omega), w1, w2, w3, off_z]
  unfold aj
  by_cases h0 : dv (sv m) r = 0
  · rw [if_pos h0, h0, if_pos (by decide)]
    rfl
  · rw [if_neg h0, if_neg (nI_ne0 (by omega) (by omega)), show (20000 : Int32) * nI (gv (sv m) r) * zI (off (sv m) r p) = zI (20000 * (gv (sv m) r : Int) * off (sv m) r p) by rw [← zI_nI, show (20000 : Int32) = zI 20000 from rfl, zI_mul, zI_mul], b2_of (c_floor N (by unfold zB; omega) (by omega) (by omega) m), show (50000 : Int32) = zI 50000 from rfl, zI_add]
def RowP1 (M : Mem) (p : Nat) : Prop := gI M 46 p = gI M 96 (62 + 5 * p) ∧ gI M 42 p = nI (sn (sv M) p) ∧ gI M 43 p = zI (nm (sv M) p) ∧ gI M 44 p = nI (mn (fun r => sv M r p) 100 12) ∧ gI M 45 p = nI (hg (sv M) p)
theorem c_measP {N : Nat} (hN : 12 < N) {m : Mem} (h : Rel m) (hw : RowR m (nR m)) {p : Nat} (hp : p < 16) : f_X5_measureProposal N (nI p) m = some (sI (sI (sI (sI m 42 p (nI (sn (sv m) p))) 43 p (zI (nm (sv m) p))) 44 p (nI (mn (fun r => sv m r p) 100 12))) 45 p (nI (hg (sv m) p))) := by
  have hs := h.sN
  have hR := h.b.R.2
  have h1 : L_X5_measureProposal_15 N N (nI p) 0 0 100 0 0 m = some (nI p, nI (sn (sv m) p), zI (sz (sv m) p), nI (mn (fun r => sv m r p) 100 12), nI (hg (sv m) p), m) := by
    refine loop_fn (fun n i => L_X5_measureProposal_15 N n (nI p) (nI (cnt (fun r => decide (¬ sv m r p = 0)) i)) (zI (smZ (fun r => if sv m r p = 0 then 0 else aj (sv m) r p) i)) (nI (mn (fun r => sv m r p) 100 i)) (nI (cnt (fun r => decide (80 ≤ sv m r p)) i)) (nI i) m) 12 _ (fun n i hi => ?_) (fun n => ?_) 12 N 0 rfl hN
    · show T_X5_measureProposal_15 N (L_X5_measureProposal_15 N n) _ _ _ _ _ _ _ = L_X5_measureProposal_15 N n _ _ _ _ _ _ _
      unfold T_X5_measureProposal_15 B_X5_measureProposal_80
      rw [if_neg (show ¬ (12 : Int32) ≤ nI i from nI_ge (b := 12) hi (by omega)), b2_of (c_hasSc N h hi hp), nI_1]
      simp only [cnt, smZ, mn]
      by_cases hz : sv m i p = 0
      · rw [if_pos hz, if_pos rfl]
        simp [hz]
      · have hir : i < nR m := Nat.lt_of_not_le (fun hh => hz (h.sv0 hi hp (Or.inl hh)))
        have hsb := hs i hi p hp
        have hmn := mn_le (f := fun r => sv m r p) (c := 100) i
        rw [if_neg hz, if_neg (by decide), b2_of (c_sv N h hi hp hz), b2_of (c_adj N hs hi hp (hw i hir)), zI_add, nI_1, if_neg hz, if_neg hz]
        have e1 : (if nI (sv m i p) < nI (mn (fun r => sv m r p) 100 i) then nI (sv m i p) else nI (mn (fun r => sv m r p) 100 i)) = nI (if sv m i p < mn (fun r => sv m r p) 100 i then sv m i p else mn (fun r => sv m r p) 100 i) := by
          by_cases hl : sv m i p < mn (fun r => sv m r p) 100 i
          · rw [if_pos (nI_lt hl (by omega)), if_pos hl]
          · rw [if_neg (nI_nlt (by omega) (by omega)), if_neg hl]
        rw [e1, if_pos (decide_eq_true hz)]
        by_cases h80 : 80 ≤ sv m i p
        · rw [if_neg (show ¬ nI (sv m i p) < (80 : Int32) from nI_nlt (b := 80) h80 (by omega)), show (1 : Int32) = nI 1 from rfl, nI_add, if_pos (decide_eq_true h80)]
        · rw [if_pos (show nI (sv m i p) < (80 : Int32) from nI_lt (b := 80) (by omega) (by omega)), show (0 : Int32) = nI 0 from rfl, nI_add, if_neg (fun e => h80 (of_decide_eq_true e))]
    · show T_X5_measureProposal_15 N (L_X5_measureProposal_15 N n) _ _ _ _ _ _ _ = _
      unfold T_X5_measureProposal_15
      rw [if_pos (show (12 : Int32) ≤ nI 12 by decide)]
      rfl
  have hsz := sz_le (sv m) hp (n := 12) (by omega)
  have hsn : sn (sv m) p ≤ 12 := cnt_le _ 12
  unfold f_X5_measureProposal
  rw [l6_of h1, gd_t (inb_nI hp (by omega)), nI_clamp (by omega), wr_eq]
  have h115 : ∀ x : Int32, ∀ M, B_X5_measureProposal_115 N (nI p) (nI (mn (fun r => sv m r p) 100 12)) (nI (hg (sv m) p)) x (nI p) M = some (sI (sI (sI M 43 p x) 44 p (nI (mn (fun r => sv m r p) 100 12))) 45 p (nI (hg (sv m) p))) := by
    intro x M
    unfold B_X5_measureProposal_115
    rw [gd_t (inb_nI hp (by omega)), nI_clamp (by omega), wr_eq, gd_t (inb_nI hp (by omega)), wr_eq, wr_eq]
  unfold nm
  by_cases h0 : sn (sv m) p = 0
  · rw [if_pos h0, h0, if_pos (by decide), h115]
    rfl
  · rw [if_neg h0, if_neg (nI_ne0 (by omega) (by omega)), b2_of (c_floor N (by unfold zB sz; omega) (by omega) (by omega) _), h115]
def rn (m : Mem) (p : Nat) : Bool := decide (¬ sn (sv m) p = 0)
def mf (m : Mem) (k p : Nat) : Int := if k = 0 then nm (sv m) p else if k = 1 then (ls (sv m) p : Int) else if k = 2 then (hg (sv m) p : Int) else if k = 3 then -(vN (gI m 96 (62 + 5 * p)) : Int) else -(p : Int)
def bf (m : Mem) (a b : Nat) : Bool := bfd (mf m) a b 4 0
def sp (m : Mem) (a b : Nat) : Nat := sepd (mf m) a b 4 0
theorem bf_irr (m : Mem) (a : Nat) : bf m a a = false := bfd_irr _ _ _ _
theorem bf_tr (m : Mem) (a b c : Nat) (h : bf m a b = true) (h' : bf m b c = true) : bf m a c = true := bfd_trans _ _ _ _ _ _ h h'
theorem bf_tot (m : Mem) {a b : Nat} (h : a ≠ b) : bf m a b = !bf m b a := bfd_total _ _ _ _ _ (by show ¬ -(a : Int) = -(b : Int); omega)
theorem RelB.asks {m : Mem} (h : RelB m) {p : Nat} (hp : p < nQ m) : gI m 96 (62 + 5 * p) = nI (vN (gI m 96 (62 + 5 * p))) ∧ 1 ≤ vN (gI m 96 (62 + 5 * p)) ∧ vN (gI m 96 (62 + 5 * p)) ≤ 9999 := ⟨vN_eq (h.told (by have := h.Q.2; omega)), (h.2.1.2.2.2.2.2.2.2.2.2.2.1 p hp).2.2.2.1⟩
theorem mf_b {m : Mem} (h : Rel m) {p : Nat} (hp : p < nQ m) (hr : rn m p = true) (k : Nat) : -5000000 ≤ mf m k p ∧ mf m k p ≤ 5000000 := by
  have hQ := h.b.Q.2
  have h1 := nm_le (sv m) (show p < 16 by omega)
  have h2 := (h.b.asks hp).2
  have h3 : hg (sv m) p ≤ 12 := cnt_le _ 12
  have h4 : ls (sv m) p ≤ 101 := mn_le 12
  unfold mf
  split
  · omega
  · split
    · omega
    · split
      · omega
      · split <;> omega
theorem ls_c {m : Mem} (h : Rel m) {p : Nat} (hp : p < 16) (hr : rn m p = true) : mn (fun r => sv m r p) 100 12 = ls (sv m) p ∧ ls (sv m) p ≤ 100 := by
  have := mn_101 (f := fun r => sv m r p) 12 (fun i hi => h.sN i hi p hp) (by unfold rn sn at hr; rw [decide_eq_true_iff] at hr; omega)
  exact ⟨this.1.symm, this.2⟩
theorem c_merit (N : Nat) {M : Mem} (h : Rel M) {p : Nat} (hp : p < nQ M) (hr : rn M p = true) (hw : RowP1 M p) {k : Nat} (hk : k ≤ 4) : f_X5_merit N (nI k) (nI p) M = some (zI (mf M k p), M) := by
  have hQ := h.b.Q.2
  obtain ⟨w1, w2, w3, w4, w5⟩ := hw
  obtain ⟨l1, l2⟩ := ls_c h (show p < 16 by omega) hr
  unfold f_X5_merit mf
  rw [nI_clamp (by omega), w1, w3, w4, w5, l1, (h.b.asks hp).1, vN_nI (by have := (h.b.asks hp).2; omega)]
  have hi : inb (nI p) 16 = true := inb_nI (by omega) (by omega)
  rcases (show k = 0 ∨ k = 1 ∨ k = 2 ∨ k = 3 ∨ k = 4 by omega) with rfl | rfl | rfl | rfl | rfl
  · rw [if_pos (by decide), if_pos rfl, gd_t hi]
  · rw [if_neg (by decide), if_pos (by decide), if_neg (by decide), if_pos rfl, gd_t hi, zI_nI]
  · rw [if_neg (by decide), if_neg (by decide), if_pos (by decide), if_neg (by decide), if_neg (by decide), if_pos rfl, gd_t hi, zI_nI]
  · rw [if_neg (by decide), if_neg (by decide), if_neg (by decide), if_pos (by decide), if_neg (by decide), if_neg (by decide), if_neg (by decide), if_pos rfl, gd_t hi, ← zI_nI, zI_neg]
  · rw [if_neg (by decide), if_neg (by decide), if_neg (by decide), if_neg (by decide), if_neg (by decide), if_neg (by decide), if_neg (by decide), if_neg (by decide), ← zI_nI, zI_neg]
theorem c_sep {N : Nat} (hN : 5 < N) {M : Mem} (h : Rel M) {a b : Nat} (ha : a < nQ M) (hb : b < nQ M) (hra : rn M a = true) (hrb : rn M b = true) (hwa : RowP1 M a) (hwb : RowP1 M b) : f_X5_separation N (nI a) (nI b) M = some (nI (sp M a b), M) := by
  have go : ∀ d n k, k + d = 4 → d < n → (L_X5_separation_2 N n (nI a) (nI b) (nI k) M).bind (fun x9 => match x9 with | .inl (m_5) => some ((4 : Int32), m_5) | .inr ((v3_5, m_5)) => some (v3_5, m_5)) = some (nI (sepd (mf M) a b d k), M) := by
    intro d
    induction d with
    | zero =>
      intro n k hk hn
      obtain ⟨n, rfl⟩ : ∃ k, n = k + 1 := ⟨n - 1, by omega⟩
      obtain rfl : k = 4 := by omega
      show (T_X5_separation_2 N (L_X5_separation_2 N n) _ _ _ _).bind _ = _
      unfold T_X5_separation_2
      rw [if_pos (by decide)]
      rfl
    | succ d ih =>
      intro n k hk hn
      obtain ⟨n, rfl⟩ : ∃ k, n = k + 1 := ⟨n - 1, by omega⟩
      have b1 := mf_b h ha hra k
      have b2 := mf_b h hb hrb k
      show (T_X5_separation_2 N (L_X5_separation_2 N n) _ _ _ _).bind _ = _
      unfold T_X5_separation_2
      rw [if_neg (show ¬ (4 : Int32) ≤ nI k from nI_ge (b := 4) (by omega) (by omega)), b2_of (c_merit N h ha hra hwa (by omega)), b2_of (c_merit N h hb hrb hwb (by omega)), nI_1]
      show _ = some (nI (if mf M k a = mf M k b then sepd (mf M) a b d (k + 1) else k), M)
      by_cases he : mf M k a = mf M k b
      · rw [if_pos (by rw [he]), if_pos he]
        exact ih n (k + 1) (by omega) (by omega)
      · rw [if_neg (fun e => he ((zI_eq (by unfold zB; omega) (by unfold zB; omega)).mp e)), if_neg he]
        rfl
  unfold f_X5_separation
  exact go 4 N 0 rfl (by omega)
theorem c_before {N : Nat} (hN : 5 < N) {M : Mem} (h : Rel M) {a b : Nat} (ha : a < nQ M) (hb : b < nQ M) (hra : rn M a = true) (hrb : rn M b = true) (hwa : RowP1 M a) (hwb : RowP1 M b) : f_X5_isBefore N (nI a) (nI b) M = some (if bf M a b = true then 1 else 0, M) := by
  have hk := (sepd_le (mf M) a b 4 0).2
  unfold f_X5_isBefore
  rw [b2_of (c_sep hN h ha hb hra hrb hwa hwb), b2_of (c_merit N h ha hra hwa (show sp M a b ≤ 4 by unfold sp; omega)), b2_of (c_merit N h hb hrb hwb (show sp M a b ≤ 4 by unfold sp; omega))]
  have b1 := mf_b h ha hra (sp M a b)
  have b2 := mf_b h hb hrb (sp M a b)
  unfold bf
  rw [bfd_sep]
  change _ = some (if decide (mf M (sp M a b) b < mf M (sp M a b) a) = true then 1 else 0, M)
  by_cases hl : mf M (sp M a b) b < mf M (sp M a b) a
  · rw [if_neg (fun e => by have := (zI_le (by unfold zB; omega) (by unfold zB; omega)).mp e; omega), decide_eq_true hl, if_pos rfl]
  · rw [if_pos ((zI_le (by unfold zB; omega) (by unfold zB; omega)).mpr (by omega)), decide_eq_false hl, if_neg (by decide)]
theorem c_ranked (N : Nat) {M : Mem} {p : Nat} (hp : p < 16) (hw : RowP1 M p) : f_X5_isRanked N (nI p) M = some (if rn M p = true then 1 else 0, M) := by
  have hs : sn (sv M) p ≤ 12 := cnt_le _ 12
  unfold f_X5_isRanked rn
  rw [gd_t (inb_nI hp (by omega)), nI_clamp (by omega), hw.2.1]
  by_cases h0 : sn (sv M) p = 0
  · rw [h0, if_pos (by decide), decide_eq_false (by omega), if_neg (by decide)]
  · rw [if_neg (nI_nle (by omega) (by omega)), decide_eq_true h0, if_pos rfl]
def od (M : Mem) (j : Nat) : Nat := vN (gI M 47 j)
def OrdOK (M : Mem) (K : Nat) : Prop := gI M 38 9 = nI (cnt (rn M) K) ∧ ∀ j, j < cnt (rn M) K → (od M j < K ∧ rn M (od M j) = true ∧ rk (rn M) (bf M) K (od M j) = j ∧ gI M 47 j = nI (od M j))
theorem UpdE.zrn {m M : Mem} (h : UpdE m M) : rn M = rn m := by
  funext p
  unfold rn
  rw [h.zsv]
theorem UpdE.zmf {m M : Mem} (h : UpdE m M) : mf M = mf m := by
  funext k p
  unfold mf
  rw [h.zsv, h.1 96 (by omega)]
theorem UpdE.zbf {m M : Mem} (h : UpdE m M) : bf M = bf m := by
  funext a b
  unfold bf
  rw [h.zmf]
theorem UpdE.q {m M : Mem} (h : UpdE m M) : nQ M = nQ m := by
  unfold nQ
  rw [h.1 96 (by omega)]
theorem UpdE.r {m M : Mem} (h : UpdE m M) : nR M = nR m := by
  unfold nR
  rw [h.1 96 (by omega)]
theorem RowP1.keep {M X : Mem} {p : Nat} (h : RowP1 M p) (e : UpdE M X) (e1 : ∀ k, 42 ≤ k → k ≤ 46 → gI X k = gI M k) : RowP1 X p := by
  unfold RowP1 at *
  rw [e.zsv, e1 46 (by omega) (by omega), e1 42 (by omega) (by omega), e1 43 (by omega) (by omega), e1 44 (by omega) (by omega), e1 45 (by omega) (by omega), e.1 96 (by omega)]
  exact h
theorem cnt_s (P : Nat → Bool) (n : Nat) : cnt P (n + 1) = cnt P n + if P n then 1 else 0 := rfl
theorem c_insert {N : Nat} (hN : 17 < N) {M : Mem} (h : Rel M) {K : Nat} (hK : K < nQ M) (hr : rn M K = true) (hw : ∀ p, p ≤ K → RowP1 M p) (ho : OrdOK M K) : ∃ M', f_X5_insert N (nI K) M = some M' ∧ UpdE M M' ∧ (∀ k, k ≠ 47 → k ≠ 38 → gI M' k = gI M k) ∧ OrdOK M' (K + 1) := by
  have hQ := h.b.Q.2
  obtain ⟨o1, o2⟩ := ho
  have hc := cnt_le (rn M) K
  generalize hcc : cnt (rn M) K = c at *
  have hr0 : rk (rn M) (bf M) K K ≤ c := by
    rw [← hcc]
    exact cnt_mono K (fun i _ hi => by simp at hi; exact hi.1)
  generalize hrr : rk (rn M) (bf M) K K = r0 at *
  have key : ∀ j, j < c → (bf M K (od M j) = true ↔ r0 ≤ j) := by
    intro j hj
    obtain ⟨q1, q2, q3, q4⟩ := o2 j hj
    constructor
    · intro hb
      rw [← hrr, ← q3]
      exact rk_le (bf_tr M) hb
    · intro hle
      rw [bf_tot M (show K ≠ od M j by omega)]
      cases hb : bf M (od M j) K
      · rfl
      · have := rk_bf (rn := rn M) (bf := bf M) (bf_irr M) (bf_tr M) q1 q2 hb
        omega
  have go : ∀ d j n X, j = r0 + d → j ≤ c → d < n → UpdE M X → (∀ k, k ≠ 47 → gI X k = gI M k) → (∀ i, i < j → gI X 47 i = gI M 47 i) → (∀ i, j < i → i ≤ c → gI X 47 i = gI M 47 (i - 1)) →
      ∃ X', L_X5_insert_5 N n (nI K) (nI j) X = some (nI K, nI r0, X') ∧ UpdE M X' ∧ (∀ k, k ≠ 47 → gI X' k = gI M k) ∧ (∀ i, i < r0 → gI X' 47 i = gI M 47 i) ∧ (∀ i, r0 < i → i ≤ c → gI X' 47 i = gI M 47 (i - 1)) := by
    intro d
    induction d with
    | zero =>
      intro j n X hj hjc hn eX eX' f1 f2
      obtain rfl : j = r0 := hj
      obtain ⟨n, rfl⟩ : ∃ k, n = k + 1 := ⟨n - 1, by omega⟩
      refine ⟨X, ?_, eX, eX', f1, f2⟩
      show T_X5_insert_5 N (L_X5_insert_5 N n) _ _ _ = _
      unfold T_X5_insert_5
      by_cases h0 : j = 0
      · rw [h0, if_pos (by decide)]
      · obtain ⟨q1, q2, q3, q4⟩ := o2 (j - 1) (by omega)
        have hX := h.core eX.core
        have hbe := c_before (N := N) (by omega) hX (a := K) (b := od M (j - 1)) (by rw [eX.q]; exact hK) (by rw [eX.q]; omega) (by rw [eX.zrn]; exact hr) (by rw [eX.zrn]; exact q2) ((hw K (Nat.le_refl _)).keep eX (fun k _ _ => eX' k (by omega))) ((hw _ (by omega)).keep eX (fun k _ _ => eX' k (by omega)))
        rw [eX.zbf, if_neg (fun hb => by have := (key (j - 1) (by omega)).mp hb; omega)] at hbe
        rw [if_neg (nI_nle (by omega) (by omega)), show nI j - 1 = nI (j - 1) by rw [show j = (j - 1) + 1 by omega, nI_pred]; rfl, gd_t (inb_nI (by omega) (by omega)), nI_clamp (by omega), f1 _ (by omega), q4, b2_of hbe, if_pos rfl]
    | succ d ih =>
      intro j n X hj hjc hn eX eX' f1 f2
      obtain ⟨n, rfl⟩ : ∃ k, n = k + 1 := ⟨n - 1, by omega⟩
      obtain ⟨q1, q2, q3, q4⟩ := o2 (j - 1) (by omega)
      have hX := h.core eX.core
      have hbe := c_before (N := N) (by omega) hX (a := K) (b := od M (j - 1)) (by rw [eX.q]; exact hK) (by rw [eX.q]; omega) (by rw [eX.zrn]; exact hr) (by rw [eX.zrn]; exact q2) ((hw K (Nat.le_refl _)).keep eX (fun k _ _ => eX' k (by omega))) ((hw _ (by omega)).keep eX (fun k _ _ => eX' k (by omega)))
      rw [eX.zbf, if_pos ((key (j - 1) (by omega)).mpr (by omega))] at hbe
      obtain ⟨X', a1, a2, a3, a4, a5⟩ := ih (j - 1) n (sI X 47 j (gI X 47 (j - 1))) (by omega) (by omega) (by omega) (eX.trans (UpdE.sI _ (by omega))) (fun k hk => by rw [sI_ne _ _ hk]; exact eX' k hk) (fun i hi => by rw [gI_sI, if_neg (by omega)]; exact f1 i (by omega)) (fun i h1 h2 => by
        by_cases hij : i = j
        · rw [hij, gI_sI, if_pos ⟨rfl, rfl⟩]
          exact f1 _ (by omega)
        · rw [gI_sI, if_neg (by omega)]
          exact f2 i (by omega) h2)
      refine ⟨X', ?_, a2, a3, a4, a5⟩
      show T_X5_insert_5 N (L_X5_insert_5 N n) _ _ _ = _
      unfold T_X5_insert_5
      rw [if_neg (nI_nle (by omega) (by omega)), show nI j - 1 = nI (j - 1) by rw [show j = (j - 1) + 1 by omega, nI_pred]; rfl, gd_t (inb_nI (by omega) (by omega)), nI_clamp (by omega), f1 _ (by omega), q4, b2_of hbe, if_neg (by decide), gd_t (inb_nI (by omega) (by omega)), nI_clamp (by omega), wr_eq, show nI j + (-1) = nI (j - 1) by rw [show j = (j - 1) + 1 by omega, ← nI_1, Int32.add_assoc]; exact Int32.add_zero _]
      exact a1
  obtain ⟨X, a1, a2, a3, a4, a5⟩ := go (c - r0) c N M (by omega) (by omega) (by omega) (UpdE.refl M) (fun _ _ => rfl) (fun _ _ => rfl) (fun i h1 h2 => by omega)
  have e1 : UpdE X (sI (sI X 47 r0 (nI K)) 38 9 (nI (c + 1))) := (UpdE.sI _ (by omega)).trans (UpdE.sI _ (by omega))
  refine ⟨sI (sI X 47 r0 (nI K)) 38 9 (nI (c + 1)), ?_, a2.trans e1, fun k k1 k2 => by rw [sI_ne _ _ k2, sI_ne _ _ k1]; exact a3 k k1, ?_⟩
  · unfold f_X5_insert B_X5_insert_45
    rw [o1, l3_of a1, gd_t (inb_nI (by omega) (by omega)), nI_clamp (by omega), wr_eq, wr_eq, gI_sI, if_neg (by omega), a3 38 (by omega), o1, nI_1]
  · have e2 := a2.trans e1
    unfold OrdOK od
    rw [e2.zrn, e2.zbf, cnt_s, hr, if_pos rfl, hcc]
    refine ⟨by rw [gI_sI, if_pos ⟨rfl, rfl⟩], fun j hj => ?_⟩
    have eg : gI (sI (sI X 47 r0 (nI K)) 38 9 (nI (c + 1))) 47 = gI (sI X 47 r0 (nI K)) 47 := sI_ne _ _ (by omega)
    rw [eg]
    by_cases hjr : j = r0
    · subst hjr
      rw [gI_sI, if_pos ⟨rfl, rfl⟩, vN_nI (by omega), rk_s, bf_irr, Bool.and_false, if_neg (by decide), hrr]
      exact ⟨by omega, hr, rfl, rfl⟩
    · rw [gI_sI, if_neg (by omega)]
      by_cases hlt : j < r0
      · rw [a4 j hlt]
        obtain ⟨q1, q2, q3, q4⟩ := o2 j (by omega)
        change od M j < K + 1 ∧ rn M (od M j) = true ∧ rk (rn M) (bf M) (K + 1) (od M j) = j ∧ gI M 47 j = nI (od M j)
        refine ⟨by omega, q2, ?_, q4⟩
        rw [rk_s, q3, if_neg]
        · rfl
        · rw [hr, Bool.true_and]
          intro hb
          have := (key j (by omega)).mp hb
          omega
      · rw [a5 j (by omega) (by omega)]
        obtain ⟨q1, q2, q3, q4⟩ := o2 (j - 1) (by omega)
        change od M (j - 1) < K + 1 ∧ rn M (od M (j - 1)) = true ∧ rk (rn M) (bf M) (K + 1) (od M (j - 1)) = j ∧ gI M 47 (j - 1) = nI (od M (j - 1))
        refine ⟨by omega, q2, ?_, q4⟩
        rw [rk_s, q3, if_pos]
        · omega
        · rw [hr, Bool.true_and]
          exact (key (j - 1) (by omega)).mpr (by omega)
theorem c_upd2 {N : Nat} (hN : 17 < N) : ∀ d n i m, Rel m → RowR m (nR m) → i + d = nQ m → d < n → (∀ p, p < i → RowP1 m p) → OrdOK m i → ∃ M, L_X5_update_29 N n (gR m 0 7) (nI i) m = some M ∧ UpdE m M ∧ RowR M (nR m) ∧ (∀ p, p < nQ m → RowP1 M p) ∧ OrdOK M (nQ m) := by
  intro d
  induction d with
  | zero =>
    intro n i m h hw hi hn hp ho
    have hQ := h.b.Q.2
    obtain ⟨n, rfl⟩ : ∃ k, n = k + 1 := ⟨n - 1, by omega⟩
    obtain rfl : i = nQ m := by omega
    refine ⟨m, ?_, UpdE.refl m, hw, hp, ho⟩
    show T_X5_update_29 N (L_X5_update_29 N n) _ _ _ = _
    unfold T_X5_update_29
    rw [gd_t (st_k h.b.s), h.b.cQ, if_pos (nI_le (by omega) (by omega))]
  | succ d ih =>
    intro n i m h hw hi hn hp ho
    have hQ := h.b.Q.2
    have hiq : i < nQ m := by omega
    obtain ⟨n, rfl⟩ : ∃ k, n = k + 1 := ⟨n - 1, by omega⟩
    have u0 : UpdE m (sI m 46 i (gI m 96 (62 + 5 * i))) := UpdE.sI _ (by omega)
    generalize hm0 : sI m 46 i (gI m 96 (62 + 5 * i)) = m0 at u0
    have h0 := h.core u0.core
    have hw0 : RowR m0 (nR m0) := by
      rw [u0.r]
      intro r hr
      have := hw r hr
      rw [u0.zsv, ← hm0]
      simp only [sI_ne _ _ (show (39 : Nat) ≠ 46 by omega), sI_ne _ _ (show (40 : Nat) ≠ 46 by omega), sI_ne _ _ (show (41 : Nat) ≠ 46 by omega)]
      exact this
    have hc := c_measP (N := N) (by omega) h0 hw0 (show i < 16 by omega)
    have u1 : UpdE m0 (sI (sI (sI (sI m0 42 i (nI (sn (sv m0) i))) 43 i (zI (nm (sv m0) i))) 44 i (nI (mn (fun r => sv m0 r i) 100 12))) 45 i (nI (hg (sv m0) i))) := (((UpdE.sI _ (by omega)).trans (UpdE.sI _ (by omega))).trans (UpdE.sI _ (by omega))).trans (UpdE.sI _ (by omega))
    generalize hm1 : sI (sI (sI (sI m0 42 i (nI (sn (sv m0) i))) 43 i (zI (nm (sv m0) i))) 44 i (nI (mn (fun r => sv m0 r i) 100 12))) 45 i (nI (hg (sv m0) i)) = m1 at u1 hc
    have u := u0.trans u1
    have h1 := h.core u.core
    have hoth : ∀ k, ¬ (42 ≤ k ∧ k ≤ 46) → gI m1 k = gI m k := fun k hk => by rw [← hm1, sI_ne _ _ (by omega), sI_ne _ _ (by omega), sI_ne _ _ (by omega), sI_ne _ _ (by omega), ← hm0, sI_ne _ _ (by omega)]
    have hne : ∀ k j, j ≠ i → gI m1 k j = gI m k j := fun k j hj => by
      rw [← hm1, gI_sI, if_neg (by omega), gI_sI, if_neg (by omega), gI_sI, if_neg (by omega), gI_sI, if_neg (by omega), ← hm0, gI_sI, if_neg (by omega)]
    have hp1 : ∀ p, p ≤ i → RowP1 m1 p := by
      intro p hpi
      by_cases e : p = i
      · subst e
        unfold RowP1
        rw [u.zsv, hoth 96 (by omega), ← hm1, u0.zsv]
        refine ⟨?_, ?_, ?_, ?_, ?_⟩
        · rw [gI_sI, if_neg (by omega), gI_sI, if_neg (by omega), gI_sI, if_neg (by omega), gI_sI, if_neg (by omega), ← hm0, gI_sI, if_pos ⟨rfl, rfl⟩]
        · rw [gI_sI, if_neg (by omega), gI_sI, if_neg (by omega), gI_sI, if_neg (by omega), gI_sI, if_pos ⟨rfl, rfl⟩]
        · rw [gI_sI, if_neg (by omega), gI_sI, if_neg (by omega), gI_sI, if_pos ⟨rfl, rfl⟩]
        · rw [gI_sI, if_neg (by omega), gI_sI, if_pos ⟨rfl, rfl⟩]
        · rw [gI_sI, if_pos ⟨rfl, rfl⟩]
      · have := hp p (by omega)
        unfold RowP1 at this ⊢
        rw [u.zsv, hoth 96 (by omega), hne 46 p e, hne 42 p e, hne 43 p e, hne 44 p e, hne 45 p e]
        exact this
    have hw1 : RowR m1 (nR m1) := by
      rw [u.r]
      intro r hr
      have := hw r hr
      rw [u.zsv, hoth 39 (by omega), hoth 40 (by omega), hoth 41 (by omega)]
      exact this
    have ho1 : OrdOK m1 i := by
      unfold OrdOK od at ho ⊢
      rw [u.zrn, u.zbf, hoth 38 (by omega), hoth 47 (by omega)]
      exact ho
    have e7 : gR m1 0 7 = gR m 0 7 := u.2.1 0 7
    have hstep : T_X5_update_29 N (L_X5_update_29 N n) (gR m 0 7) (nI i) m = if rn m1 i = true then b1 (f_X5_insert N (nI i) m1) (fun m_12 => L_X5_update_29 N n (gR m 0 7) (nI (i + 1)) m_12) else L_X5_update_29 N n (gR m 0 7) (nI (i + 1)) m1 := by
      unfold T_X5_update_29
      rw [gd_t (st_k h.b.s), h.b.cQ, if_neg (nI_ge (by omega) (by omega)), gd_t (st_ok h.b.s (by omega) (by omega) (show i < 16 by omega)), gd_t (inb_nI (by omega) (by omega)), st_rt h.b.s (by omega) (by omega), nI_clamp (by omega), show gI m (gR m 0 7 + (12 - 2)) i = gI m 96 (62 + 5 * i) from (h.b.rowP hiq).2.2.2.1, hm0, wr_eq, b1_of hc, b2_of (c_ranked N (by omega) (hp1 i (Nat.le_refl _))), nI_1]
      cases rn m1 i <;> rfl
    show ∃ M, T_X5_update_29 N (L_X5_update_29 N n) _ _ _ = some M ∧ _
    rw [hstep]
    cases hrn : rn m1 i
    · have ho2 : OrdOK m1 (i + 1) := by
        unfold OrdOK at ho1 ⊢
        rw [cnt_s, hrn, if_neg (by decide), Nat.add_zero]
        refine ⟨ho1.1, fun j hj => ?_⟩
        obtain ⟨q1, q2, q3, q4⟩ := ho1.2 j hj
        refine ⟨by omega, q2, ?_, q4⟩
        rw [rk_s, hrn, Bool.false_and, if_neg (by decide)]
        exact q3
      obtain ⟨M, a1, a2, a3, a4, a5⟩ := ih n (i + 1) m1 h1 hw1 (by rw [u.q]; omega) (by omega) (fun p hpi => hp1 p (by omega)) ho2
      rw [e7] at a1
      rw [u.r] at a3
      rw [u.q] at a4 a5
      exact ⟨M, by rw [if_neg (by decide)]; exact a1, u.trans a2, a3, a4, a5⟩
    · obtain ⟨m2, b1, b2, b3, b4⟩ := c_insert hN h1 (K := i) (by rw [u.q]; omega) hrn hp1 ho1
      have h2 := h1.core b2.core
      have hw2 : RowR m2 (nR m2) := by
        rw [b2.r]
        intro r hr
        have := hw1 r hr
        rw [b2.zsv, b3 39 (by omega) (by omega), b3 40 (by omega) (by omega), b3 41 (by omega) (by omega)]
        exact this
      obtain ⟨M, a1, a2, a3, a4, a5⟩ := ih n (i + 1) m2 h2 hw2 (by rw [b2.q, u.q]; omega) (by omega) (fun p hpi => (hp1 p (by omega)).keep b2 (fun k k1 k2 => b3 k (by omega) (by omega))) b4
      rw [b2.2.1, e7] at a1
      rw [b2.r, u.r] at a3
      rw [b2.q, u.q] at a4 a5
      exact ⟨M, by rw [if_pos rfl, b1_of b1]; exact a1, (u.trans b2).trans a2, a3, a4, a5⟩
/-- what update leaves -/
def Upd (m M : Mem) : Prop := UpdE m M ∧ RowR M (nR m) ∧ (∀ p, p < nQ m → RowP1 M p) ∧ OrdOK M (nQ m)
theorem c_update {N : Nat} (hN : 17 < N) {m : Mem} (h : Rel m) : ∃ M, f_X5_update N (gR m 0 7) m = some M ∧ Upd m M := by
  have hR := h.b.R.2
  have hQ := h.b.Q.2
  obtain ⟨M1, a1, a2, a3⟩ := c_upd1 (N := N) (by omega) (nR m) N 0 m h (by omega) (by omega) (fun r hr => by omega)
  have u1 : UpdE M1 (sI M1 38 9 0) := UpdE.sI _ (by omega)
  have u := a2.trans u1
  obtain ⟨M, b1, b2, b3, b4, b5⟩ := c_upd2 hN (nQ m) N 0 (sI M1 38 9 0) (h.core u.core) (by
    rw [u.r]
    intro r hr
    have := a3 r hr
    rw [u1.zsv, sI_ne _ _ (by omega), sI_ne _ _ (by omega), sI_ne _ _ (by omega)]
    exact this) (by rw [u.q]; omega) (by omega) (fun p hp => by omega) ⟨by rw [gI_sI, if_pos ⟨rfl, rfl⟩]; rfl, fun j hj => by exact absurd hj (by show ¬ j < 0; omega)⟩
  rw [u.2.1] at b1
  rw [u.r] at b3
  rw [u.q] at b4 b5
  refine ⟨M, ?_, u.trans b2, b3, b4, b5⟩
  unfold f_X5_update
  rw [l2_of (show L_X5_update_2 N N (gR m 0 7) 0 m = _ from a1), wr_eq, l1_of (show L_X5_update_29 N N (gR m 0 7) 0 _ = _ from b1)]
