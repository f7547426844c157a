/-! ONE REVIEW MORE keeps the certificate -/
def arcA (E F : Nat → Nat → Bool) (u v : Nat) : Bool := (decide (u < 16) && decide (16 ≤ v) && decide (v < 28) && E (v - 16) u && !F (v - 16) u) || (decide (v < 16) && decide (16 ≤ u) && decide (u < 28) && F (u - 16) v)
def arcC (w : Nat → Nat → Nat) (u v : Nat) : Int := if 16 ≤ v then (w (v - 16) u : Int) else -(w (u - 16) v : Int)
def srcF (ea : Nat → Nat) (F : Nat → Nat → Bool) (v : Nat) : Bool := decide (v < 16) && decide (dP F v < ea v)
theorem arcC_pr (w : Nat → Nat → Nat) (r p : Nat) : arcC w p (16 + r) = (w r p : Int) := by
  unfold arcC
  rw [if_pos (by omega), show 16 + r - 16 = r by omega]
theorem arcC_rp (w : Nat → Nat → Nat) (r : Nat) {p : Nat} (hp : p < 16) : arcC w (16 + r) p = -(w r p : Int) := by
  unfold arcC
  rw [if_neg (by omega), show 16 + r - 16 = r by omega]
theorem arcA_iff {E F : Nat → Nat → Bool} {u v : Nat} : arcA E F u v = true ↔ (u < 16 ∧ 16 ≤ v ∧ v < 28 ∧ E (v - 16) u = true ∧ F (v - 16) u = false) ∨ (v < 16 ∧ 16 ≤ u ∧ u < 28 ∧ F (u - 16) v = true) := by
  unfold arcA
  simp only [Bool.or_eq_true, Bool.and_eq_true, decide_eq_true_eq, Bool.not_eq_true']
  constructor
  · rintro (⟨⟨⟨⟨a1, a2⟩, a3⟩, a4⟩, a5⟩ | ⟨⟨⟨a1, a2⟩, a3⟩, a4⟩)
    · exact Or.inl ⟨a1, a2, a3, a4, a5⟩
    · exact Or.inr ⟨a1, a2, a3, a4⟩
  · rintro (⟨a1, a2, a3, a4, a5⟩ | ⟨a1, a2, a3, a4⟩)
    · exact Or.inl ⟨⟨⟨⟨a1, a2⟩, a3⟩, a4⟩, a5⟩
    · exact Or.inr ⟨⟨⟨a1, a2⟩, a3⟩, a4⟩
theorem srcF_iff {ea : Nat → Nat} {F : Nat → Nat → Bool} {v : Nat} : srcF ea F v = true ↔ v < 16 ∧ dP F v < ea v := by
  unfold srcF
  simp only [Bool.and_eq_true, decide_eq_true_eq]
theorem cnt_pos {P : Nat → Bool} {j : Nat} : ∀ n, j < n → P j = true → 0 < cnt P n
  | 0, h, _ => by omega
  | n + 1, h, hp => by
    show 0 < cnt P n + _
    by_cases e : j = n
    · rw [← e, hp]
      simp
    · have := cnt_pos n (by omega) hp
      omega
theorem Cert.po {E F : Nat → Nat → Bool} {cap ea : Nat → Nat} {w : Nat → Nat → Nat} {h : Nat → Int} {hT : Int} (C : Cert E cap ea w F h hT) (hw : ∀ r p, w r p ≤ 2) : PO (arcA E F) (arcC w) (srcF ea F) h := by
  obtain ⟨c1, c2, c3, c4, c5, c6⟩ := C
  refine ⟨fun u v hu hv ha => ?_, fun u v hu hv ha hs => ?_, fun u v ha => ?_, fun v hv hs => ?_⟩
  · unfold arcC
    rcases arcA_iff.mp ha with ⟨a1, a2, a3, a4, a5⟩ | ⟨a1, a2, a3, a4⟩
    · have := c1 (v - 16) u (by omega) a1 a4 a5
      rw [show 16 + (v - 16) = v by omega] at this
      rw [if_pos a2]
      exact this
    · have := c2 (u - 16) v (by omega) a1 a4
      rw [show 16 + (u - 16) = u by omega] at this
      rw [if_neg (by omega)]
      omega
  · obtain ⟨s1, s2⟩ := srcF_iff.mp hs
    rcases arcA_iff.mp ha with ⟨a1, a2, a3, a4, a5⟩ | ⟨a1, a2, a3, a4⟩
    · omega
    · exact c4 v a1 (cnt_pos (j := u - 16) 12 (by omega) a4)
  · unfold arcC
    have := hw (v - 16) u
    have := hw (u - 16) v
    split <;> omega
  · obtain ⟨s1, s2⟩ := srcF_iff.mp hs
    exact c3 v s1 s2
theorem way_st {E F : Nat → Nat → Bool} {c : Nat → Nat → Int} {src : Nat → Bool} {h g : Nat → Int} {f : Nat → Option Nat} (G : GI (arcA E F) c src h g f) (hsrc : ∀ v, src v = true → v < 16) : ∀ n v, v < 28 → g v ≠ FAR → chn f n v → St f F n v ∧ src (rot f n v) = true ∧ rot f n v ∈ wy f n v ∧ (∀ x, x ∈ wy f n v → x < 28 ∧ g x ≠ FAR) := by
  intro n
  induction n with
  | zero =>
    intro v hv hr hc
    have hs : src v = true := by
      cases hs : src v
      · exact absurd (G.2.1 v hv hs hc) hr
      · rfl
    refine ⟨hsrc v hs, hs, ?_, fun x hx => ?_⟩
    · unfold wy rot
      exact List.mem_singleton.mpr rfl
    · unfold wy at hx
      rw [List.mem_singleton] at hx
      rw [hx]
      exact ⟨hv, hr⟩
  | succ n ih =>
    intro v hv hr hc
    obtain ⟨u, hu, hcu⟩ := hc
    obtain ⟨a1, a2, a3, a4, a5⟩ := G.2.2.1 v u hv hu
    obtain ⟨b1, b2, b3, b4⟩ := ih u a1 a3 hcu
    have erot : rot f (n + 1) v = rot f n u := by
      show (match f v with | none => v | some u => rot f n u) = _
      rw [hu]
    have ewy : wy f (n + 1) v = v :: wy f n u := by
      show v :: (match f v with | none => [] | some u => wy f n u) = _
      rw [hu]
    rw [erot, ewy]
    refine ⟨⟨u, hu, ?_, b1⟩, b2, List.mem_cons_of_mem _ b3, fun x hx => ?_⟩
    · rcases arcA_iff.mp a2 with ⟨q1, q2, q3, q4, q5⟩ | ⟨q1, q2, q3, q4⟩
      · exact Or.inl ⟨q2, q3, q1, q5⟩
      · exact Or.inr ⟨q1, q2, q3, q4⟩
    · rcases List.mem_cons.mp hx with e | hx
      · rw [e]
        exact ⟨hv, hr⟩
      · exact b4 x hx
theorem one_more {E F : Nat → Nat → Bool} {cap ea : Nat → Nat} {w : Nat → Nat → Nat} {h g : Nat → Int} {f : Nat → Option Nat} {hT : Int} {r0 n : Nat} (hw : ∀ r p, w r p ≤ 2) (hF : Feas E cap ea F) (C : Cert E cap ea w F h hT)
    (G : GI (arcA E F) (arcC w) (srcF ea F) h g f) (X : FX (arcA E F) (arcC w) g) (hr0 : r0 < 12) (hcap : dR F r0 < cap r0) (hreach : g (16 + r0) ≠ FAR) (hmax : ∀ r, r < 12 → dR F r < cap r → g (16 + r) ≠ FAR → g (16 + r) ≤ g (16 + r0)) (hn : chn f n (16 + r0)) :
    Feas E cap ea (ag f n (16 + r0) F) ∧ (∃ h' hT', Cert E cap ea w (ag f n (16 + r0) F) h' hT') ∧ szF (ag f n (16 + r0) F) = szF F + 1 ∧ (wtF w (ag f n (16 + r0) F) : Int) = wtF w F + g (16 + r0) ∧ St f F n (16 + r0) ∧ rot f n (16 + r0) < 16 ∧
    (∀ r, dR (ag f n (16 + r0) F) r = dR F r + if r = r0 then 1 else 0) ∧ (∀ p, dP (ag f n (16 + r0) F) p = dP F p + if p = rot f n (16 + r0) then 1 else 0) := by
  have P := C.po hw
  obtain ⟨s1, s2, s3, s4⟩ := way_st G (fun v hv => (srcF_iff.mp hv).1) n (16 + r0) (by omega) hreach hn
  obtain ⟨t1, t2⟩ := srcF_iff.mp s2
  have g0 := (G.1 _ (by omega) s2).1
  -- the way is tight
  have tight : ∀ x y, x ∈ wy f n (16 + r0) → f x = some y → g x = g y + arcC w y x := by
    intro x y hx hy
    obtain ⟨x1, x2⟩ := s4 x hx
    obtain ⟨a1, a2, a3, a4, a5⟩ := G.2.2.1 x y x1 hy
    have := X y x a1 x1 a2 a3
    omega
  obtain ⟨k1, k2, k3⟩ := ag_ok (w := w) (g := g) n (16 + r0) F hn s1 (fun x y hx hy => by
    have := tight x y hx hy
    unfold arcC at this
    exact this) g0
  obtain ⟨k4, k5⟩ := k1 (by omega)
  have k4' : ∀ r, dR (ag f n (16 + r0) F) r = dR F r + if r = r0 then 1 else 0 := fun r => by
    rw [k4 r]
    by_cases e : r = r0
    · rw [if_pos e, if_pos (by omega)]
    · rw [if_neg e, if_neg (by omega)]
  have edge : ∀ r p, r < 12 → p < 16 → (ag f n (16 + r0) F) r p = F r p ∨ (∃ x y, x ∈ wy f n (16 + r0) ∧ f x = some y ∧ ((x = 16 + r ∧ y = p) ∨ (x = p ∧ y = 16 + r))) := by
    intro r p hr hp
    rcases ag_edge n (16 + r0) F r p hn with e | ⟨x, y, e1, e2, e3⟩
    · exact Or.inl e
    · refine Or.inr ⟨x, y, e1, e2, ?_⟩
      rcases e3 with e3 | e3 | e3
      · exact Or.inl e3
      · exact Or.inr ⟨e3.1, e3.2.1⟩
      · obtain ⟨x1, x2⟩ := s4 x e1
        obtain ⟨a1, a2, a3, a4, a5⟩ := G.2.2.1 x y x1 e2
        rcases arcA_iff.mp a2 with ⟨q1, q2, q3, q4, q5⟩ | ⟨q1, q2, q3, q4⟩ <;> omega
  have tedge : ∀ r p, r < 12 → p < 16 → (∃ x y, x ∈ wy f n (16 + r0) ∧ f x = some y ∧ ((x = 16 + r ∧ y = p) ∨ (x = p ∧ y = 16 + r))) → g (16 + r) = g p + w r p ∧ (16 + r) ∈ wy f n (16 + r0) ∨ (g (16 + r) = g p + w r p ∧ p ∈ wy f n (16 + r0)) := by
    rintro r p hr hp ⟨x, y, e1, e2, ⟨rfl, rfl⟩ | ⟨rfl, rfl⟩⟩
    · have := tight _ _ e1 e2
      unfold arcC at this
      rw [if_pos (by omega), show 16 + r - 16 = r by omega] at this
      exact Or.inl ⟨this, e1⟩
    · have := tight _ _ e1 e2
      unfold arcC at this
      rw [if_neg (by omega), show 16 + r - 16 = r by omega] at this
      exact Or.inr ⟨by omega, e1⟩
  -- both ends of a tight edge lie on the way
  have both : ∀ r p, r < 12 → p < 16 → (∃ x y, x ∈ wy f n (16 + r0) ∧ f x = some y ∧ ((x = 16 + r ∧ y = p) ∨ (x = p ∧ y = 16 + r))) → (16 + r) ∈ wy f n (16 + r0) ∧ p ∈ wy f n (16 + r0) := by
    have nxt : ∀ n v x y, chn f n v → x ∈ wy f n v → f x = some y → y ∈ wy f n v := by
      intro n
      induction n with
      | zero =>
        intro v x y hc hx hy
        unfold wy at hx
        rw [List.mem_singleton] at hx
        rw [hx, show f v = none from hc] at hy
        cases hy
      | succ n ih =>
        intro v x y hc hx hy
        obtain ⟨u, hu, hcu⟩ := hc
        have ewy : wy f (n + 1) v = v :: wy f n u := by
          show v :: (match f v with | none => [] | some u => wy f n u) = _
          rw [hu]
        rw [ewy] at hx ⊢
        rcases List.mem_cons.mp hx with e | hx
        · rw [e, hu] at hy
          cases hy
          refine List.mem_cons_of_mem _ ?_
          cases n <;> unfold wy <;> simp
        · exact List.mem_cons_of_mem _ (ih u x y hcu hx hy)
    rintro r p hr hp ⟨x, y, e1, e2, ⟨rfl, rfl⟩ | ⟨rfl, rfl⟩⟩
    · exact ⟨e1, nxt _ _ _ _ hn e1 e2⟩
    · exact ⟨nxt _ _ _ _ hn e1 e2, e1⟩
  obtain ⟨c1, c2, c3, c4, c5, c6⟩ := C
  have hTg : g (16 + r0) ≤ hT := by
    have h1 := G.2.2.2.1 (16 + r0) (by omega) hreach
    have h2 := c5 r0 hr0 hcap
    omega
  -- the new potentials
  generalize hd : hT - g (16 + r0) = d at *
  have hd0 : 0 ≤ d := by omega
  have onw : ∀ x, x ∈ wy f n (16 + r0) → h x - g x ≤ d ∧ g x ≠ FAR := by
    intro x hx
    have h1 := chn_up G P n (16 + r0) x (by omega) hn hx
    have h2 := c5 r0 hr0 hcap
    exact ⟨by omega, (s4 x hx).2⟩
  have N : ∀ x, x < 28 → (if g x ≠ FAR ∧ h x - g x ≤ d then g x else h x - d) ≤ h x ∧ h x - d ≤ (if g x ≠ FAR ∧ h x - g x ≤ d then g x else h x - d) := by
    intro x hx
    by_cases e : g x ≠ FAR ∧ h x - g x ≤ d
    · rw [if_pos e]
      have := G.2.2.2.1 x hx e.1
      omega
    · rw [if_neg e]
      omega
  have arcN : ∀ u v, u < 28 → v < 28 → arcA E F u v = true → (if g u ≠ FAR ∧ h u - g u ≤ d then g u else h u - d) + arcC w u v ≤ (if g v ≠ FAR ∧ h v - g v ≤ d then g v else h v - d) := by
    intro u v hu hv ha
    have p1 := P.1 u v hu hv ha
    have Nv := N v hv
    by_cases e : g u ≠ FAR ∧ h u - g u ≤ d
    · rw [if_pos e]
      have x1 := X u v hu hv ha e.1
      have lowu := G.low hu e.1
      have hc := P.2.2.1 u v ha
      have hv' : g v ≠ FAR := by unfold FAR; omega
      have := G.2.2.2.1 v hv hv'
      by_cases e' : g v ≠ FAR ∧ h v - g v ≤ d
      · rw [if_pos e']
        exact x1
      · have : ¬ h v - g v ≤ d := fun q => e' ⟨hv', q⟩
        rw [if_neg e']
        omega
    · rw [if_neg e]
      omega
  have onE : ∀ x, x ∈ wy f n (16 + r0) → (if g x ≠ FAR ∧ h x - g x ≤ d then g x else h x - d) = g x := fun x hx => if_pos ⟨(onw x hx).2, (onw x hx).1⟩
  have esz : szF (ag f n (16 + r0) F) = szF F + 1 := by
    unfold szF
    refine sm_at (v := r0) 12 hr0 ?_ (fun i _ hi => ?_)
    · show dR (ag f n (16 + r0) F) r0 = dR F r0 + 1
      rw [k4' r0, if_pos rfl]
    · show dR (ag f n (16 + r0) F) i = dR F i
      rw [k4' i, if_neg hi]
      rfl
  refine ⟨⟨fun r p hr hp hf => ?_, fun r hr => ?_, fun p hp => ?_⟩, ⟨fun x => if g x ≠ FAR ∧ h x - g x ≤ d then g x else h x - d, g (16 + r0), fun r p hr hp he hf => ?_, fun r p hr hp hf => ?_, fun p hp hl => ?_, fun p hp hl => ?_, fun r hr hl => ?_, fun r hr hl => ?_⟩, esz, k3, s1, t1, k4', k5⟩
  · rcases edge r p hr hp with e | ⟨x, y, e1, e2, e3⟩
    · rw [e] at hf
      exact hF.1 r p hr hp hf
    · obtain ⟨x1, x2⟩ := s4 x e1
      obtain ⟨a1, a2, a3, a4, a5⟩ := G.2.2.1 x y x1 e2
      rcases e3 with ⟨rfl, rfl⟩ | ⟨rfl, rfl⟩
      · rcases arcA_iff.mp a2 with ⟨q1, q2, q3, q4, q5⟩ | ⟨q1, q2, q3, q4⟩
        · rw [show 16 + r - 16 = r by omega] at q4
          exact q4
        · omega
      · rcases arcA_iff.mp a2 with ⟨q1, q2, q3, q4, q5⟩ | ⟨q1, q2, q3, q4⟩
        · omega
        · rw [show 16 + r - 16 = r by omega] at q4
          exact hF.1 r x hr hp q4
  · rw [k4' r]
    have := hF.2.1 r hr
    by_cases e : r = r0
    · rw [if_pos e]
      rw [e]
      omega
    · rw [if_neg e]
      omega
  · rw [k5 p]
    have := hF.2.2 p hp
    by_cases e : p = rot f n (16 + r0)
    · rw [if_pos e, e]
      omega
    · rw [if_neg e]
      omega
  · show (if g p ≠ FAR ∧ h p - g p ≤ d then g p else h p - d) + (w r p : Int) ≤ (if g (16 + r) ≠ FAR ∧ h (16 + r) - g (16 + r) ≤ d then g (16 + r) else h (16 + r) - d)
    rcases edge r p hr hp with e | e
    · rw [e] at hf
      have := arcN p (16 + r) (by omega) (by omega) (arcA_iff.mpr (Or.inl ⟨hp, by omega, by omega, by rw [show 16 + r - 16 = r by omega]; exact he, by rw [show 16 + r - 16 = r by omega]; exact hf⟩))
      rw [arcC_pr] at this
      exact this
    · obtain ⟨b1, b2⟩ := both r p hr hp e
      rw [onE _ b1, onE _ b2]
      rcases tedge r p hr hp e with ⟨q, _⟩ | ⟨q, _⟩ <;> omega
  · show (if g (16 + r) ≠ FAR ∧ h (16 + r) - g (16 + r) ≤ d then g (16 + r) else h (16 + r) - d) ≤ (if g p ≠ FAR ∧ h p - g p ≤ d then g p else h p - d) + (w r p : Int)
    rcases edge r p hr hp with e | e
    · rw [e] at hf
      have := arcN (16 + r) p (by omega) (by omega) (arcA_iff.mpr (Or.inr ⟨hp, by omega, by omega, by rw [show 16 + r - 16 = r by omega]; exact hf⟩))
      rw [arcC_rp w r hp] at this
      omega
    · obtain ⟨b1, b2⟩ := both r p hr hp e
      rw [onE _ b1, onE _ b2]
      rcases tedge r p hr hp e with ⟨q, _⟩ | ⟨q, _⟩ <;> omega
  · show 0 ≤ (if g p ≠ FAR ∧ h p - g p ≤ d then g p else h p - d)
    have hl' : dP F p < ea p := by
      rw [k5 p] at hl
      omega
    have hg := (G.1 p (by omega) (srcF_iff.mpr ⟨hp, hl'⟩)).1
    have := c3 p hp hl'
    by_cases e : g p ≠ FAR ∧ h p - g p ≤ d
    · rw [if_pos e]
      omega
    · rw [if_neg e]
      have : g p ≠ FAR := by rw [hg]; decide
      have : ¬ h p - g p ≤ d := fun q => e ⟨this, q⟩
      omega
  · show (if g p ≠ FAR ∧ h p - g p ≤ d then g p else h p - d) ≤ 0
    by_cases e : p = rot f n (16 + r0)
    · rw [e, onE _ s3]
      omega
    · rw [k5 p, if_neg e] at hl
      have := c4 p hp hl
      have := (N p (by omega)).1
      omega
  · show (if g (16 + r) ≠ FAR ∧ h (16 + r) - g (16 + r) ≤ d then g (16 + r) else h (16 + r) - d) ≤ g (16 + r0)
    have hl' : dR F r < cap r := by
      rw [k4' r] at hl
      omega
    have := c5 r hr hl'
    by_cases e : g (16 + r) ≠ FAR ∧ h (16 + r) - g (16 + r) ≤ d
    · rw [if_pos e]
      exact hmax r hr hl' e.1
    · rw [if_neg e]
      omega
  · show g (16 + r0) ≤ (if g (16 + r) ≠ FAR ∧ h (16 + r) - g (16 + r) ≤ d then g (16 + r) else h (16 + r) - d)
    by_cases e : r = r0
    · rw [e, onE (16 + r0) (by cases n <;> unfold wy <;> simp)]
      exact Int.le_refl _
    · rw [k4' r, if_neg e] at hl
      have := c6 r hr hl
      have := (N (16 + r) (by omega)).2
      omega
theorem no_more {E F G' : Nat → Nat → Bool} {cap ea : Nat → Nat} {w : Nat → Nat → Nat} {h g : Nat → Int} {f : Nat → Option Nat} (hw : ∀ r p, w r p ≤ 2) (hF : Feas E cap ea F) (hG : Feas E cap ea G')
    (G : GI (arcA E F) (arcC w) (srcF ea F) h g f) (X : FX (arcA E F) (arcC w) g) (hno : ∀ r, r < 12 → dR F r < cap r → g (16 + r) = FAR) : szF G' ≤ szF F := by
  refine cut_max (X := fun v => decide (g v ≠ FAR)) hF hG (fun p hp hl => ?_) (fun r hr hx hl => ?_) (fun r p hr hp he hf hx => ?_) (fun r p hr hp hf hx => ?_)
  · rw [(G.1 p (by omega) (srcF_iff.mpr ⟨hp, hl⟩)).1]
    decide
  · have := hno r hr hl
    simp [this] at hx
  · have hx' := of_decide_eq_true hx
    have ha : arcA E F p (16 + r) = true := arcA_iff.mpr (Or.inl ⟨hp, by omega, by omega, by rw [show 16 + r - 16 = r by omega]; exact he, by rw [show 16 + r - 16 = r by omega]; exact hf⟩)
    have := X p (16 + r) (by omega) (by omega) ha hx'
    have := G.low (show p < 28 by omega) hx'
    have : -2 ≤ arcC w p (16 + r) := by unfold arcC; rw [if_pos (by omega)]; omega
    apply decide_eq_true
    unfold FAR
    omega
  · have hx' := of_decide_eq_true hx
    have ha : arcA E F (16 + r) p = true := arcA_iff.mpr (Or.inr ⟨hp, by omega, by omega, by rw [show 16 + r - 16 = r by omega]; exact hf⟩)
    have := X (16 + r) p (by omega) (by omega) ha hx'
    have := G.low (show 16 + r < 28 by omega) hx'
    have hww := hw (16 + r - 16) p
    have : -2 ≤ arcC w (16 + r) p := by unfold arcC; rw [if_neg (by omega)]; omega
    apply decide_eq_true
    unfold FAR
    omega
theorem Cert.none (E : Nat → Nat → Bool) (cap ea : Nat → Nat) {w : Nat → Nat → Nat} (hw : ∀ r p, w r p ≤ 2) : Feas E cap ea (fun _ _ => false) ∧ Cert E cap ea w (fun _ _ => false) (fun v => if v < 16 then 0 else 2) 2 ∧ szF (fun _ _ => false) = 0 ∧ wtF w (fun _ _ => false) = 0 := by
  have z : ∀ n, cnt (fun _ => false) n = 0 := by
    intro n
    induction n with
    | zero => rfl
    | succ n ih => show cnt _ n + _ = 0; rw [ih]; rfl
  have zR : ∀ r, dR (fun _ _ => false) r = 0 := fun r => z 16
  have zP : ∀ p, dP (fun _ _ => false) p = 0 := fun p => z 12
  have zs : ∀ n, sm (fun _ => 0) n = 0 := by
    intro n
    induction n with
    | zero => rfl
    | succ n ih => show sm _ n + 0 = 0; rw [ih]
  refine ⟨⟨fun _ _ _ _ h => (by cases h), fun r _ => by rw [zR]; omega, fun p _ => by rw [zP]; omega⟩, ⟨fun r p hr hp _ _ => ?_, fun r p hr hp h => (by cases h), fun p hp _ => ?_, fun p hp h => by rw [zP] at h; omega, fun r hr _ => ?_, fun r hr h => by rw [zR] at h; omega⟩, ?_, ?_⟩
  · show (if p < 16 then (0 : Int) else 2) + w r p ≤ (if 16 + r < 16 then 0 else 2)
    have := hw r p
    rw [if_pos hp, if_neg (by omega)]
    omega
  · show 0 ≤ (if p < 16 then (0 : Int) else 2)
    rw [if_pos hp]
    omega
  · show (if 16 + r < 16 then (0 : Int) else 2) ≤ 2
    rw [if_neg (by omega)]
    omega
  · unfold szF
    have : (fun r => dR (fun _ _ => false) r) = (fun _ => 0) := funext zR
    rw [this]
    exact zs 12
  · unfold wtF
    have : (fun r => sm (fun p => if (fun _ _ => false : Nat → Nat → Bool) r p then w r p else 0) 16) = (fun _ => 0) := funext (fun r => zs 16)
    rw [this]
    exact zs 12
/-- two that are best of their size and of most members -/
theorem same_best {E F F' : Nat → Nat → Bool} {cap ea : Nat → Nat} {w : Nat → Nat → Nat} {h h' : Nat → Int} {hT hT' : Int} (f1 : Feas E cap ea F) (f2 : Feas E cap ea F') (c1 : Cert E cap ea w F h hT) (c2 : Cert E cap ea w F' h' hT') (m1 : ∀ G, Feas E cap ea G → szF G ≤ szF F) (m2 : ∀ G, Feas E cap ea G → szF G ≤ szF F') : szF F = szF F' ∧ wtF w F = wtF w F' := by
  have a1 := m1 F' f2
  have a2 := m2 F f1
  have e : szF F = szF F' := by omega
  have b1 := c1.opt f1 f2 e.symm
  have b2 := c2.opt f2 f1 e
  exact ⟨e, by omega⟩
