/-! THE EXCHANGE along a way -/
def setF (F : Nat → Nat → Bool) (r p : Nat) (b : Bool) : Nat → Nat → Bool := fun r' p' => if r' = r ∧ p' = p then b else F r' p'
theorem setF_same (F : Nat → Nat → Bool) (r p : Nat) (b : Bool) : setF F r p b r p = b := if_pos ⟨rfl, rfl⟩
theorem setF_ne (F : Nat → Nat → Bool) {r p r' p' : Nat} (b : Bool) (h : ¬ (r' = r ∧ p' = p)) : setF F r p b r' p' = F r' p' := if_neg h
theorem dR_set {F : Nat → Nat → Bool} {r p : Nat} (hp : p < 16) : (F r p = false → ∀ x, dR (setF F r p true) x = dR F x + if x = r then 1 else 0) ∧ (F r p = true → ∀ x, dR (setF F r p false) x + (if x = r then 1 else 0) = dR F x) := by
  have ne : ∀ b x, x ≠ r → dR (setF F r p b) x = dR F x := fun b x hx => cnt_congr 16 (fun i _ => setF_ne _ _ (fun h => hx h.1))
  constructor
  · intro hf x
    by_cases e : x = r
    · rw [if_pos e, e]
      exact cnt_up (v := p) 16 hp hf (setF_same _ _ _ _) (fun i _ hi => setF_ne _ _ (fun h => hi h.2))
    · rw [if_neg e, ne _ x e]
      rfl
  · intro hf x
    by_cases e : x = r
    · rw [if_pos e, e]
      exact (cnt_up (v := p) 16 hp (setF_same _ _ _ _) hf (fun i _ hi => (setF_ne _ _ (fun h => hi h.2)).symm)).symm
    · rw [if_neg e, ne _ x e]
      rfl
theorem dP_set {F : Nat → Nat → Bool} {r p : Nat} (hr : r < 12) : (F r p = false → ∀ x, dP (setF F r p true) x = dP F x + if x = p then 1 else 0) ∧ (F r p = true → ∀ x, dP (setF F r p false) x + (if x = p then 1 else 0) = dP F x) := by
  have ne : ∀ b x, x ≠ p → dP (setF F r p b) x = dP F x := fun b x hx => cnt_congr 12 (fun i _ => setF_ne _ _ (fun h => hx h.2))
  constructor
  · intro hf x
    by_cases e : x = p
    · rw [if_pos e, e]
      exact cnt_up (P := fun y => F y p) (Q := fun y => setF F r p true y p) (v := r) 12 hr hf (setF_same _ _ _ _) (fun i _ hi => setF_ne _ _ (fun h => hi h.1))
    · rw [if_neg e, ne _ x e]
      rfl
  · intro hf x
    by_cases e : x = p
    · rw [if_pos e, e]
      exact (cnt_up (P := fun y => setF F r p false y p) (Q := fun y => F y p) (v := r) 12 hr (setF_same _ _ _ _) hf (fun i _ hi => (setF_ne _ _ (fun h => hi h.1)).symm)).symm
    · rw [if_neg e, ne _ x e]
      rfl
theorem sm_at {f f' : Nat → Nat} {v d : Nat} : ∀ n, v < n → f' v = f v + d → (∀ i, i < n → i ≠ v → f' i = f i) → sm f' n = sm f n + d
  | 0, h, _, _ => by omega
  | n + 1, h, h1, h2 => by
    show sm f' n + f' n = sm f n + f n + d
    by_cases e : v = n
    · subst e
      have : ∀ k, k ≤ v → sm f' k = sm f k := by
        intro k
        induction k with
        | zero => intro _; rfl
        | succ k ih =>
          intro hk
          show sm f' k + f' k = sm f k + f k
          rw [ih (by omega), h2 k (by omega) (by omega)]
      rw [this v (Nat.le_refl _)]
      omega
    · rw [sm_at n (by omega) h1 (fun i hi => h2 i (by omega)), h2 n (by omega) (by omega)]
      omega
theorem wt_set {w : Nat → Nat → Nat} {F : Nat → Nat → Bool} {r p : Nat} (hr : r < 12) (hp : p < 16) : (F r p = false → wtF w (setF F r p true) = wtF w F + w r p) ∧ (F r p = true → wtF w (setF F r p false) + w r p = wtF w F) := by
  have go : ∀ G G' : Nat → Nat → Bool, G r p = false → G' r p = true → (∀ x y, ¬ (x = r ∧ y = p) → G' x y = G x y) → wtF w G' = wtF w G + w r p := by
    intro G G' h1 h2 h3
    unfold wtF
    refine sm_at (v := r) 12 hr ?_ (fun i _ hi => ?_)
    · refine sm_at (v := p) 16 hp ?_ (fun i _ hi => ?_)
      · simp [h1, h2]
      · rw [h3 r i (fun h => hi h.2)]
    · have : (fun q => if G' i q then w i q else 0) = (fun q => if G i q then w i q else 0) := funext (fun q => by rw [h3 i q (fun h => hi h.1)])
      show sm (fun q => if G' i q then w i q else 0) 16 = sm (fun q => if G i q then w i q else 0) 16
      rw [this]
  constructor
  · intro hf
    exact go F _ hf (setF_same _ _ _ _) (fun x y h => setF_ne _ _ h)
  · intro hf
    exact (go _ F (setF_same _ _ _ _) hf (fun x y h => (setF_ne _ _ h).symm)).symm
/-- an arc's edge is turned -/
def setE (F : Nat → Nat → Bool) (u v : Nat) : Nat → Nat → Bool := if 16 ≤ v then setF F (v - 16) u true else setF F (u - 16) v false
def ag (f : Nat → Option Nat) : Nat → Nat → (Nat → Nat → Bool) → (Nat → Nat → Bool)
  | 0, _, F => F
  | n + 1, v, F => match f v with
    | none => F
    | some u => ag f n u (setE F u v)
def rot (f : Nat → Option Nat) : Nat → Nat → Nat
  | 0, v => v
  | n + 1, v => match f v with
    | none => v
    | some u => rot f n u
/-- each arc of the way is there -/
def St (f : Nat → Option Nat) (F : Nat → Nat → Bool) : Nat → Nat → Prop
  | 0, v => v < 16
  | n + 1, v => ∃ u, f v = some u ∧ ((16 ≤ v ∧ v < 28 ∧ u < 16 ∧ F (v - 16) u = false) ∨ (v < 16 ∧ 16 ≤ u ∧ u < 28 ∧ F (u - 16) v = true)) ∧ St f F n u
theorem St.keep {f : Nat → Option Nat} {F : Nat → Nat → Bool} {u v : Nat} (huv : (16 ≤ v ∧ u < 16) ∨ (v < 16 ∧ 16 ≤ u)) : ∀ n y, v ∉ wy f n y → St f F n y → St f (setE F u v) n y := by
  intro n
  induction n with
  | zero => intro y _ h; exact h
  | succ n ih =>
    intro y hm h
    obtain ⟨x, hx, h1, h2⟩ := h
    unfold wy at hm
    rw [hx] at hm
    have hm' := fun e => hm (List.mem_cons.mpr e)
    have hyv : v ≠ y := fun e => hm' (Or.inl e)
    have hxm : v ∉ wy f n x := fun e => hm' (Or.inr e)
    have hxv : v ≠ x := fun e => hxm (by rw [e]; cases n <;> unfold wy <;> simp)
    refine ⟨x, hx, ?_, ih x hxm h2⟩
    have keep : ∀ r p, ¬ (16 + r = v ∧ p = u) → ¬ (16 + r = u ∧ p = v) → setE F u v r p = F r p := by
      intro r p k1 k2
      unfold setE
      split
      · exact setF_ne _ _ (fun e => k1 (by omega))
      · exact setF_ne _ _ (fun e => k2 (by omega))
    rcases h1 with ⟨a1, a2, a3, a4⟩ | ⟨a1, a2, a3, a4⟩
    · exact Or.inl ⟨a1, a2, a3, by rw [keep _ _ (by omega) (by omega)]; exact a4⟩
    · exact Or.inr ⟨a1, a2, a3, by rw [keep _ _ (by omega) (by omega)]; exact a4⟩
theorem ag_ok {f : Nat → Option Nat} {w : Nat → Nat → Nat} {g : Nat → Int} : ∀ n v F, chn f n v → St f F n v → (∀ x y, x ∈ wy f n v → f x = some y → g x = g y + (if 16 ≤ x then (w (x - 16) y : Int) else -(w (y - 16) x : Int))) → g (rot f n v) = 0 →
    ((16 ≤ v → (∀ r, dR (ag f n v F) r = dR F r + if 16 + r = v then 1 else 0) ∧ (∀ p, dP (ag f n v F) p = dP F p + if p = rot f n v then 1 else 0)) ∧
     (v < 16 → (∀ r, dR (ag f n v F) r = dR F r) ∧ (∀ p, dP (ag f n v F) p + (if p = v then 1 else 0) = dP F p + if p = rot f n v then 1 else 0)) ∧
     ((wtF w (ag f n v F) : Int) = wtF w F + g v)) := by
  intro n
  induction n with
  | zero =>
    intro v F hc hs hg h0
    have hv : v < 16 := hs
    refine ⟨fun h => by omega, fun _ => ⟨fun r => rfl, fun p => rfl⟩, ?_⟩
    have : g v = 0 := h0
    show (wtF w F : Int) = wtF w F + g v
    omega
  | succ n ih =>
    intro v F hc hs hg h0
    have hc' := hc
    obtain ⟨u, hu, hcu⟩ := hc
    obtain ⟨u', hu', h1, h2⟩ := hs
    rw [hu] at hu'
    cases hu'
    have hnm : v ∉ wy f n u := fun hm => by
      obtain ⟨m, m1, m2⟩ := wy_chn n u v hcu hm
      have := chn_uniq _ _ _ hc' m2
      omega
    have eag : ag f (n + 1) v F = ag f n u (setE F u v) := by
      show (match f v with | none => F | some u => ag f n u (setE F u v)) = _
      rw [hu]
    have erot : rot f (n + 1) v = rot f n u := by
      show (match f v with | none => v | some u => rot f n u) = _
      rw [hu]
    have ewy : ∀ x, x ∈ wy f n u → x ∈ wy f (n + 1) v := fun x hx => by
      unfold wy
      rw [hu]
      exact List.mem_cons_of_mem _ hx
    have hvw : v ∈ wy f (n + 1) v := by
      unfold wy
      exact List.mem_cons_self ..
    rw [eag, erot]
    rw [erot] at h0
    have hgv := hg v u hvw hu
    have hst := St.keep (F := F) (h1.elim (fun a => Or.inl ⟨a.1, a.2.2.1⟩) (fun a => Or.inr ⟨a.1, a.2.1⟩)) n u hnm h2
    obtain ⟨i1, i2, i3⟩ := ih u (setE F u v) hcu hst (fun x y hx hy => hg x y (ewy x hx) hy) h0
    rcases h1 with ⟨a1, a2, a3, a4⟩ | ⟨a1, a2, a3, a4⟩
    · have es : setE F u v = setF F (v - 16) u true := if_pos a1
      rw [es] at i1 i2 i3
      obtain ⟨j1, j2⟩ := i2 a3
      have d1 := (dR_set (F := F) (r := v - 16) a3).1 a4
      have d2 := (dP_set (F := F) (r := v - 16) (p := u) (by omega)).1 a4
      have d3 := (wt_set (w := w) (F := F) (r := v - 16) (p := u) (by omega) a3).1 a4
      rw [es]
      refine ⟨fun _ => ⟨fun r => ?_, fun p => ?_⟩, fun h => by omega, ?_⟩
      · rw [j1 r, d1 r]
        by_cases e : r = v - 16
        · rw [if_pos e, if_pos (by omega)]
        · rw [if_neg e, if_neg (by omega)]
      · have := j2 p
        rw [d2 p] at this
        omega
      · rw [i3, d3, hgv, if_pos a1]
        omega
    · have es : setE F u v = setF F (u - 16) v false := if_neg (by omega)
      rw [es] at i1 i2 i3
      obtain ⟨j1, j2⟩ := i1 a2
      have d1 := (dR_set (F := F) (r := u - 16) a1).2 a4
      have d2 := (dP_set (F := F) (r := u - 16) (p := v) (by omega)).2 a4
      have d3 := (wt_set (w := w) (F := F) (r := u - 16) (p := v) (by omega) a1).2 a4
      rw [es]
      refine ⟨fun h => by omega, fun _ => ⟨fun r => ?_, fun p => ?_⟩, ?_⟩
      · rw [j1 r, ← d1 r]
        by_cases e : r = u - 16
        · rw [if_pos e, if_pos (by omega)]
        · rw [if_neg e, if_neg (by omega)]
      · rw [j2 p, ← d2 p]
        omega
      · rw [i3, hgv, if_neg (by omega)]
        omega
theorem ag_edge {f : Nat → Option Nat} : ∀ n v F r p, chn f n v → (ag f n v F) r p = F r p ∨ ∃ x y, x ∈ wy f n v ∧ f x = some y ∧ ((x = 16 + r ∧ y = p) ∨ (x = p ∧ y = 16 + r ∧ x < 16) ∨ (x < 16 ∧ y < 16)) := by
  intro n
  induction n with
  | zero => intro v F r p _; exact Or.inl rfl
  | succ n ih =>
    intro v F r p hc
    obtain ⟨u, hu, hcu⟩ := hc
    have eag : ag f (n + 1) v F = ag f n u (setE F u v) := by
      show (match f v with | none => F | some u => ag f n u (setE F u v)) = _
      rw [hu]
    have hvw : v ∈ wy f (n + 1) v := by
      unfold wy
      exact List.mem_cons_self ..
    rw [eag]
    rcases ih u (setE F u v) r p hcu with h | ⟨x, y, h1, h2, h3⟩
    · rw [h]
      unfold setE
      split
      · by_cases e : r = v - 16 ∧ p = u
        · exact Or.inr ⟨v, u, hvw, hu, Or.inl ⟨by omega, by omega⟩⟩
        · exact Or.inl (setF_ne _ _ e)
      · by_cases e : r = u - 16 ∧ p = v
        · by_cases e' : 16 ≤ u
          · exact Or.inr ⟨v, u, hvw, hu, Or.inr (Or.inl ⟨by omega, by omega, by omega⟩)⟩
          · exact Or.inr ⟨v, u, hvw, hu, Or.inr (Or.inr ⟨by omega, by omega⟩)⟩
        · exact Or.inl (setF_ne _ _ e)
    · exact Or.inr ⟨x, y, by unfold wy; rw [hu]; exact List.mem_cons_of_mem _ h1, h2, h3⟩
