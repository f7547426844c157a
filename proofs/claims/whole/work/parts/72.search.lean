/-! THE SEARCH for ways of gain: nodes below 28 (proposals, behind them reviewers) -/
def FAR : Int := -1000000
def upO {α : Type} (f : Nat → α) (i : Nat) (v : α) : Nat → α := fun j => if j = i then v else f j
theorem upO_same {α : Type} (f : Nat → α) (i : Nat) (v : α) : upO f i v i = v := if_pos rfl
theorem upO_ne {α : Type} (f : Nat → α) {i j : Nat} (v : α) (h : j ≠ i) : upO f i v j = f j := if_neg h
/-- n steps back to a root -/
def chn (f : Nat → Option Nat) : Nat → Nat → Prop
  | 0, v => f v = none
  | n + 1, v => ∃ u, f v = some u ∧ chn f n u
theorem chn_uniq {f : Nat → Option Nat} : ∀ n m v, chn f n v → chn f m v → n = m
  | 0, 0, _, _, _ => rfl
  | 0, m + 1, v, h, h' => by
    obtain ⟨u, hu, _⟩ := h'
    rw [show f v = none from h] at hu
    cases hu
  | n + 1, 0, v, h, h' => by
    obtain ⟨u, hu, _⟩ := h
    rw [show f v = none from h'] at hu
    cases hu
  | n + 1, m + 1, v, h, h' => by
    obtain ⟨u, hu, h1⟩ := h
    obtain ⟨u', hu', h2⟩ := h'
    rw [hu] at hu'
    cases hu'
    rw [chn_uniq n m u h1 h2]
/-- the nodes of the way back -/
def wy (f : Nat → Option Nat) : Nat → Nat → List Nat
  | 0, v => [v]
  | n + 1, v => v :: (match f v with | none => [] | some u => wy f n u)
theorem wy_chn {f : Nat → Option Nat} : ∀ n v x, chn f n v → x ∈ wy f n v → ∃ m, m ≤ n ∧ chn f m x
  | 0, v, x, h, hx => by
    unfold wy at hx
    rw [List.mem_singleton] at hx
    rw [hx]
    exact ⟨0, Nat.le_refl _, h⟩
  | n + 1, v, x, h, hx => by
    have h' := h
    obtain ⟨u, hu, hc⟩ := h
    unfold wy at hx
    rw [hu] at hx
    rcases List.mem_cons.mp hx with e | hx
    · rw [e]
      exact ⟨n + 1, Nat.le_refl _, h'⟩
    · obtain ⟨m, a1, a2⟩ := wy_chn n u x hc hx
      exact ⟨m, by omega, a2⟩
theorem wy_nd {f : Nat → Option Nat} : ∀ n v, chn f n v → (wy f n v).Nodup ∧ (wy f n v).length = n + 1
  | 0, v, _ => ⟨by unfold wy; simp, rfl⟩
  | n + 1, v, h => by
    have h' := h
    obtain ⟨u, hu, hc⟩ := h
    obtain ⟨a1, a2⟩ := wy_nd n u hc
    unfold wy
    rw [hu]
    refine ⟨List.nodup_cons.mpr ⟨fun hm => ?_, a1⟩, by simp only [List.length_cons, a2]⟩
    obtain ⟨m, m1, m2⟩ := wy_chn n u v hc hm
    have := chn_uniq _ _ _ h' m2
    omega
theorem pigeon : ∀ (m : Nat) (l : List Nat), l.Nodup → (∀ x, x ∈ l → x < m) → l.length ≤ m
  | 0, l, _, h => by
    cases l with
    | nil => exact Nat.le_refl _
    | cons x l => exact absurd (h x (List.mem_cons_self ..)) (by omega)
  | m + 1, l, hn, h => by
    by_cases hm : m ∈ l
    · have h1 := pigeon m (l.erase m) (hn.erase m) (fun x hx => by
        have := h x (List.mem_of_mem_erase hx)
        have hne : x ≠ m := fun e => by
          rw [e] at hx
          exact hn.not_mem_erase hx
        omega)
      rw [List.length_erase_of_mem hm] at h1
      omega
    · have := pigeon m l hn (fun x hx => by
        have := h x hx
        have hne : x ≠ m := fun e => hm (by rw [← e]; exact hx)
        omega)
      omega
def GI (A : Nat → Nat → Bool) (c : Nat → Nat → Int) (src : Nat → Bool) (h g : Nat → Int) (f : Nat → Option Nat) : Prop :=
  (∀ v, v < 28 → src v = true → g v = 0 ∧ f v = none) ∧ (∀ v, v < 28 → src v = false → f v = none → g v = FAR) ∧
  (∀ v u, v < 28 → f v = some u → u < 28 ∧ A u v = true ∧ g u ≠ FAR ∧ g v ≠ FAR ∧ g v ≤ g u + c u v) ∧ (∀ v, v < 28 → g v ≠ FAR → g v ≤ h v) ∧
  (∀ v, v < 28 → g v ≠ FAR → ∃ n, chn f n v) ∧ (∀ v, v < 28 → g v ≠ FAR → -2 * (cnt (fun x => decide (g x ≠ FAR)) 28 : Int) ≤ g v)
def PO (A : Nat → Nat → Bool) (c : Nat → Nat → Int) (src : Nat → Bool) (h : Nat → Int) : Prop := (∀ u v, u < 28 → v < 28 → A u v = true → h u + c u v ≤ h v) ∧ (∀ u v, u < 28 → v < 28 → A u v = true → src v = true → h v ≤ 0) ∧ (∀ u v, A u v = true → -2 ≤ c u v ∧ c u v ≤ 2) ∧ (∀ v, v < 28 → src v = true → 0 ≤ h v)
theorem GI.low {A : Nat → Nat → Bool} {c : Nat → Nat → Int} {src : Nat → Bool} {h g : Nat → Int} {f : Nat → Option Nat} (G : GI A c src h g f) {v : Nat} (hv : v < 28) (hr : g v ≠ FAR) : -56 ≤ g v := by
  have := G.2.2.2.2.2 v hv hr
  have := cnt_le (fun x => decide (g x ≠ FAR)) 28
  omega
theorem chn_gain {A : Nat → Nat → Bool} {c : Nat → Nat → Int} {src : Nat → Bool} {h g : Nat → Int} {f : Nat → Option Nat} (G : GI A c src h g f) (P : PO A c src h) : ∀ n v, v < 28 → g v ≠ FAR → chn f n v → g v ≤ 2 * n ∧ n < 28 := by
  have key : ∀ n v, v < 28 → g v ≠ FAR → chn f n v → g v ≤ 2 * n ∧ ∀ x, x ∈ wy f n v → x < 28 := by
    intro n
    induction n with
    | zero =>
      intro v hv hr hc
      refine ⟨?_, fun x hx => by unfold wy at hx; rw [List.mem_singleton] at hx; omega⟩
      cases hs : src v
      · exact absurd (G.2.1 v hv hs hc) hr
      · have := (G.1 v hv hs).1
        omega
    | succ n ih =>
      intro v hv hr hc
      obtain ⟨u, hu, hc⟩ := hc
      obtain ⟨a1, a2, a3, a4, a5⟩ := G.2.2.1 v u hv hu
      obtain ⟨b1, b2⟩ := ih u a1 a3 hc
      have := P.2.2.1 u v a2
      refine ⟨by omega, fun x hx => ?_⟩
      unfold wy at hx
      rw [hu] at hx
      rcases List.mem_cons.mp hx with e | hx
      · omega
      · exact b2 x hx
  intro n v hv hr hc
  obtain ⟨a1, a2⟩ := key n v hv hr hc
  obtain ⟨b1, b2⟩ := wy_nd n v hc
  have := pigeon 28 _ b1 a2
  exact ⟨a1, by omega⟩
theorem GI.hi {A : Nat → Nat → Bool} {c : Nat → Nat → Int} {src : Nat → Bool} {h g : Nat → Int} {f : Nat → Option Nat} (G : GI A c src h g f) (P : PO A c src h) {v : Nat} (hv : v < 28) (hr : g v ≠ FAR) : g v ≤ 54 := by
  obtain ⟨n, hn⟩ := G.2.2.2.2.1 v hv hr
  have := chn_gain G P n v hv hr hn
  omega
/-- gains grow along arcs, potentials more: towards the root the difference grows -/
theorem chn_up {A : Nat → Nat → Bool} {c : Nat → Nat → Int} {src : Nat → Bool} {h g : Nat → Int} {f : Nat → Option Nat} (G : GI A c src h g f) (P : PO A c src h) : ∀ n v x, v < 28 → chn f n v → x ∈ wy f n v → g v - h v ≤ g x - h x := by
  intro n
  induction n with
  | zero =>
    intro v x hv hc hx
    unfold wy at hx
    rw [List.mem_singleton] at hx
    rw [hx]
    omega
  | succ n ih =>
    intro v x hv hc hx
    obtain ⟨u, hu, hc⟩ := hc
    obtain ⟨a1, a2, a3, a4, a5⟩ := G.2.2.1 v u hv hu
    unfold wy at hx
    rw [hu] at hx
    rcases List.mem_cons.mp hx with e | hx
    · rw [e]
      omega
    · have := ih u x a1 hc hx
      have := P.1 u v a1 hv a2
      omega
theorem cnt_up {P Q : Nat → Bool} {v : Nat} : ∀ n, v < n → P v = false → Q v = true → (∀ i, i < n → i ≠ v → Q i = P i) → cnt Q n = cnt P n + 1
  | 0, h, _, _, _ => by omega
  | n + 1, h, h1, h2, h3 => by
    show cnt Q n + _ = cnt P n + _ + 1
    by_cases e : v = n
    · subst e
      rw [h1, h2, cnt_congr v (fun i hi => h3 i (by omega) (by omega))]
      simp
    · rw [cnt_up n (by omega) h1 h2 (fun i hi => h3 i (by omega)), h3 n (by omega) (by omega)]
      omega
/-- one arc relaxed -/
theorem GI.relax {A : Nat → Nat → Bool} {c : Nat → Nat → Int} {src : Nat → Bool} {h g : Nat → Int} {f : Nat → Option Nat} (G : GI A c src h g f) (P : PO A c src h) {u v : Nat} (hu : u < 28) (hv : v < 28) (ha : A u v = true) (hr : g u ≠ FAR) (hl : g v < g u + c u v) :
    GI A c src h (upO g v (g u + c u v)) (upO f v (some u)) := by
  have lowu := G.low hu hr
  have hc := P.2.2.1 u v ha
  have hgf : g u + c u v ≠ FAR := by unfold FAR; omega
  have hup : g u ≤ h u := G.2.2.2.1 u hu hr
  have hpo := P.1 u v hu hv ha
  have hns : src v = false := by
    cases hs : src v
    · rfl
    · have := (G.1 v hv hs).1
      have := P.2.1 u v hu hv ha hs
      omega
  have huv : u ≠ v := by
    intro e
    subst e
    omega
  obtain ⟨nu, hnu⟩ := G.2.2.2.2.1 u hu hr
  have hnot : v ∉ wy f nu u := fun hm => by
    have := chn_up G P nu u v hu hnu hm
    omega
  obtain ⟨g1, g2, g3, g4, g5, g6⟩ := G
  have chU : ∀ n x, chn f n x → v ∉ wy f n x → chn (upO f v (some u)) n x := by
    intro n
    induction n with
    | zero =>
      intro x hx hm
      unfold wy at hm
      rw [List.mem_singleton] at hm
      show upO f v (some u) x = none
      rw [upO_ne _ _ (fun e => hm e.symm)]
      exact hx
    | succ n ih =>
      intro x hx hm
      obtain ⟨y, hy, hc⟩ := hx
      unfold wy at hm
      rw [hy] at hm
      have hm' := fun e => hm (List.mem_cons.mpr e)
      refine ⟨y, by rw [upO_ne _ _ (fun e => hm' (Or.inl e.symm))]; exact hy, ih y hc (fun e => hm' (Or.inr e))⟩
  have chV : chn (upO f v (some u)) (nu + 1) v := ⟨u, upO_same _ _ _, chU nu u hnu hnot⟩
  have chX : ∀ n x, chn f n x → ∃ m, chn (upO f v (some u)) m x := by
    intro n
    induction n with
    | zero =>
      intro x hx
      by_cases e : x = v
      · rw [e]
        exact ⟨_, chV⟩
      · exact ⟨0, by show upO f v (some u) x = none; rw [upO_ne _ _ e]; exact hx⟩
    | succ n ih =>
      intro x hx
      by_cases e : x = v
      · rw [e]
        exact ⟨_, chV⟩
      · obtain ⟨y, hy, hc⟩ := hx
        obtain ⟨m, hm⟩ := ih y hc
        exact ⟨m + 1, y, by rw [upO_ne _ _ e]; exact hy, hm⟩
  have hcnt : (cnt (fun x => decide (g x ≠ FAR)) 28 ≤ cnt (fun x => decide (upO g v (g u + c u v) x ≠ FAR)) 28) ∧ (g v = FAR → cnt (fun x => decide (upO g v (g u + c u v) x ≠ FAR)) 28 = cnt (fun x => decide (g x ≠ FAR)) 28 + 1) := by
    by_cases e : g v = FAR
    · have := cnt_up (P := fun x => decide (g x ≠ FAR)) (Q := fun x => decide (upO g v (g u + c u v) x ≠ FAR)) (v := v) 28 hv (by simp [e]) (by rw [upO_same]; exact decide_eq_true hgf) (fun i _ hi => by rw [upO_ne _ _ hi])
      exact ⟨by omega, fun _ => this⟩
    · have : cnt (fun x => decide (upO g v (g u + c u v) x ≠ FAR)) 28 = cnt (fun x => decide (g x ≠ FAR)) 28 := cnt_congr 28 (fun i _ => by
        by_cases ei : i = v
        · rw [ei, upO_same, decide_eq_true hgf, decide_eq_true e]
        · rw [upO_ne _ _ ei])
      exact ⟨by omega, fun e' => absurd e' e⟩
  have gu6 := g6 u hu hr
  refine ⟨fun x hx hs => ?_, fun x hx hs hf => ?_, fun y x hy hf => ?_, fun x hx hrx => ?_, fun x hx hrx => ?_, fun x hx hrx => ?_⟩
  · have e : x ≠ v := fun e => by rw [e, hns] at hs; cases hs
    rw [upO_ne _ _ e, upO_ne _ _ e]
    exact g1 x hx hs
  · by_cases e : x = v
    · rw [e, upO_same] at hf
      cases hf
    · rw [upO_ne _ _ e] at hf ⊢
      exact g2 x hx hs hf
  · by_cases e : y = v
    · rw [e, upO_same] at hf
      cases hf
      rw [e, upO_same, upO_ne _ _ huv]
      exact ⟨hu, ha, hr, hgf, Int.le_refl _⟩
    · rw [upO_ne _ _ e] at hf
      obtain ⟨a1, a2, a3, a4, a5⟩ := g3 y x hy hf
      rw [upO_ne _ _ e]
      by_cases e' : x = v
      · rw [e', upO_same]
        rw [e'] at a2 a5
        exact ⟨by omega, a2, hgf, a4, by omega⟩
      · rw [upO_ne _ _ e']
        exact ⟨a1, a2, a3, a4, a5⟩
  · by_cases e : x = v
    · rw [e, upO_same]
      omega
    · rw [upO_ne _ _ e] at hrx ⊢
      exact g4 x hx hrx
  · by_cases e : x = v
    · rw [e]
      exact ⟨_, chV⟩
    · rw [upO_ne _ _ e] at hrx
      obtain ⟨n, hn⟩ := g5 x hx hrx
      exact chX n x hn
  · by_cases e : x = v
    · rw [e, upO_same]
      by_cases ef : g v = FAR
      · have := hcnt.2 ef
        omega
      · have := g6 v hv ef
        have := hcnt.1
        omega
    · rw [upO_ne _ _ e] at hrx ⊢
      have := g6 x hx hrx
      have := hcnt.1
      omega
def mu (g : Nat → Int) : Nat := sm (fun v => if g v = FAR then 0 else (g v + 60).toNat) 28
theorem sm_up {f f' : Nat → Nat} {v : Nat} : ∀ n, v < n → f v < f' v → (∀ i, i < n → i ≠ v → f' i = f i) → sm f n < sm f' n
  | 0, h, _, _ => by omega
  | n + 1, h, h1, h2 => by
    show sm f n + f n < sm f' n + f' n
    by_cases e : v = n
    · subst e
      have : ∀ k, k ≤ v → sm f' k = sm f k := by
        intro k
        induction k with
        | zero => intro _; rfl
        | succ k ih =>
          intro hk
          show sm f' k + f' k = sm f k + f k
          rw [ih (by omega), h2 k (by omega) (by omega)]
      rw [this v (Nat.le_refl _)]
      omega
    · have := sm_up (f := f) (f' := f') n (by omega) h1 (fun i hi => h2 i (by omega))
      rw [h2 n (by omega) (by omega)]
      omega
theorem mu_up {A : Nat → Nat → Bool} {c : Nat → Nat → Int} {src : Nat → Bool} {h g : Nat → Int} {f : Nat → Option Nat} (G : GI A c src h g f) (P : PO A c src h) {u v : Nat} (hu : u < 28) (hv : v < 28) (ha : A u v = true) (hr : g u ≠ FAR) (hl : g v < g u + c u v) : mu g < mu (upO g v (g u + c u v)) := by
  have lowu := G.low hu hr
  have hc := P.2.2.1 u v ha
  unfold mu
  refine sm_up (v := v) 28 hv ?_ (fun i _ hi => by rw [upO_ne _ _ hi])
  rw [upO_same, if_neg (show ¬ g u + c u v = FAR by unfold FAR; omega)]
  by_cases e : g v = FAR
  · rw [if_pos e]
    omega
  · rw [if_neg e]
    have := G.low hv e
    omega
theorem sm_le' {f : Nat → Nat} {c : Nat} : ∀ n, (∀ i, i < n → f i ≤ c) → sm f n ≤ c * n
  | 0, _ => Nat.zero_le _
  | n + 1, h => by
    have := sm_le' (f := f) (c := c) n (fun i hi => h i (by omega))
    have := h n (by omega)
    show sm f n + f n ≤ _
    rw [Nat.mul_succ]
    omega
theorem mu_le {A : Nat → Nat → Bool} {c : Nat → Nat → Int} {src : Nat → Bool} {h g : Nat → Int} {f : Nat → Option Nat} (G : GI A c src h g f) (P : PO A c src h) : mu g ≤ 3200 := by
  have : mu g ≤ 114 * 28 := sm_le' 28 (fun v hv => by
    by_cases e : g v = FAR
    · rw [if_pos e]
      omega
    · rw [if_neg e]
      have := G.hi P hv e
      omega)
  omega
def FX (A : Nat → Nat → Bool) (c : Nat → Nat → Int) (g : Nat → Int) : Prop := ∀ u v, u < 28 → v < 28 → A u v = true → g u ≠ FAR → g u + c u v ≤ g v
