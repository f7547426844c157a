/-! THE ROWS: one judgement G for a place in a method's code: memory, program counter, locals, operand stack; heap, written places and local slots are inside it -/
abbrev Gc : Type := Program × Launch × Env × Room × State × MethodId × Array Value × List Frame × Method × Code × Om × (State → Prop)
abbrev gp (Γ : Gc) : Program := Γ.1
abbrev gl (Γ : Gc) : Launch := Γ.2.1
abbrev ge (Γ : Gc) : Env := Γ.2.2.1
abbrev gRm (Γ : Gc) : Room := Γ.2.2.2.1
abbrev gs (Γ : Gc) : State := Γ.2.2.2.2.1
abbrev gm (Γ : Gc) : MethodId := Γ.2.2.2.2.2.1
abbrev gar (Γ : Gc) : Array Value := Γ.2.2.2.2.2.2.1
abbrev gbe (Γ : Gc) : List Frame := Γ.2.2.2.2.2.2.2.1
abbrev gme (Γ : Gc) : Method := Γ.2.2.2.2.2.2.2.2.1
abbrev gc (Γ : Gc) : Code := Γ.2.2.2.2.2.2.2.2.2.1
abbrev gw (Γ : Gc) : Om := Γ.2.2.2.2.2.2.2.2.2.2.1
abbrev gQ (Γ : Gc) : State → Prop := Γ.2.2.2.2.2.2.2.2.2.2.2
def G (Γ : Gc) (nL cs : Nat) (mem : Mem) (pc : Nat) (lv : List (Nat × Value)) (st : List Value) : Prop :=
  ∀ (H : Heap) (locs : List Loc) (ls : Array Slot), lv_has ls nL lv → Wp (gw Γ) mem H → va_S (oA (gw Γ)) (gs Γ).heap H locs → W (gp Γ) (gl Γ) (ge Γ) (gRm Γ) (gs Γ) (gm Γ) (gar Γ) (gbe Γ) (gme Γ) (gc Γ) H locs cs (6 * cs) (gQ Γ) (F0 (gm Γ) pc ls st)
/-- what a method's body knows throughout -/
def Cx (Γ : Gc) (cc : ByteArray) (nL : Nat) (own : String) (rm : Room) : Prop :=
  CallFix (gp Γ) (gm Γ) (gc Γ) cc nL (gs Γ) (gar Γ) TT own ∧ Sx (gw Γ) (gs Γ) (gs Γ).heap ∧ (gme Γ).locks = false ∧ gRm Γ = rm ∧ (gl Γ).stackTraces = false
def rmK (fr lo mc : Nat) : Room := { frames := fr, cells := mc, slots := 6 * mc, locals := lo }
/-- a test that must hold -/
def gd {α : Type} (b : Bool) (x : Option α) : Option α := if b = true then x else none
theorem gd_some {α : Type} {b : Bool} {x : Option α} {o : α} (h : gd b x = some o) : b = true ∧ x = some o := by
  unfold gd at h
  split at h
  · exact ⟨‹_›, h⟩
  · cases h
theorem gd_t {α : Type} {b : Bool} {x : Option α} (h : b = true) : gd b x = x := by
  unfold gd
  rw [if_pos h]
theorem it_t {α : Type} {c : Prop} {d : Decidable c} {a b : Option α} {o : α} (hc : c) (h : (@ite _ c d a b) = some o) : a = some o := by
  rw [if_pos hc] at h
  exact h
theorem it_f {α : Type} {c : Prop} {d : Decidable c} {a b : Option α} {o : α} (hc : ¬ c) (h : (@ite _ c d a b) = some o) : b = some o := by
  rw [if_neg hc] at h
  exact h
/-- the same with the test the other way round -/
theorem nt_t {α : Type} {c : Prop} {d : Decidable c} {a b : Option α} {o : α} (hc : ¬ c) (h : (@ite _ c d a b) = some o) : b = some o := it_f hc h
def b1 {β : Type} (x : Option Mem) (K : Mem → Option β) : Option β := x.bind K
def b2 {α β : Type} (x : Option (α × Mem)) (K : α → Mem → Option β) : Option β := x.bind (fun t => K t.1 t.2)
theorem b1_some {β : Type} {x : Option Mem} {K : Mem → Option β} {o : β} (h : b1 x K = some o) : ∃ m, x = some m ∧ K m = some o := by
  cases x with
  | none => cases h
  | some m => exact ⟨m, rfl, h⟩
theorem b2_some {α β : Type} {x : Option (α × Mem)} {K : α → Mem → Option β} {o : β} (h : b2 x K = some o) : ∃ a m, x = some (a, m) ∧ K a m = some o := by
  cases x with
  | none => cases h
  | some t => exact ⟨t.1, t.2, rfl, h⟩
theorem b1_of {β : Type} {x : Option Mem} {K : Mem → Option β} {m : Mem} (h : x = some m) : b1 x K = K m := by
  rw [h]
  rfl
theorem b2_of {α β : Type} {x : Option (α × Mem)} {K : α → Mem → Option β} {a : α} {m : Mem} (h : x = some (a, m)) : b2 x K = K a m := by
  rw [h]
  rfl
/-- a callee that may throw: what it throws goes on to the caller -/
def x1 {β : Type} (x : Option ((Unit ⊕ Nat) × Mem)) (K : Mem → Option ((β ⊕ Nat) × Mem)) : Option ((β ⊕ Nat) × Mem) := x.bind (fun t => match t.1 with | .inl _ => K t.2 | .inr e => some (.inr e, t.2))
def x2 {α β : Type} (x : Option ((α ⊕ Nat) × Mem)) (K : α → Mem → Option ((β ⊕ Nat) × Mem)) : Option ((β ⊕ Nat) × Mem) := x.bind (fun t => match t.1 with | .inl a => K a t.2 | .inr e => some (.inr e, t.2))
theorem x1_some {β : Type} {x : Option ((Unit ⊕ Nat) × Mem)} {K : Mem → Option ((β ⊕ Nat) × Mem)} {o : (β ⊕ Nat) × Mem} (h : x1 x K = some o) : (∃ m, x = some (.inl (), m) ∧ K m = some o) ∨ ∃ e m, x = some (.inr e, m) ∧ o = (.inr e, m) := by
  match x, h with
  | some (.inl (), m), h => exact Or.inl ⟨m, rfl, h⟩
  | some (.inr e, m), h => exact Or.inr ⟨e, m, rfl, (Option.some.inj h).symm⟩
theorem x2_some {α β : Type} {x : Option ((α ⊕ Nat) × Mem)} {K : α → Mem → Option ((β ⊕ Nat) × Mem)} {o : (β ⊕ Nat) × Mem} (h : x2 x K = some o) : (∃ a m, x = some (.inl a, m) ∧ K a m = some o) ∨ ∃ e m, x = some (.inr e, m) ∧ o = (.inr e, m) := by
  match x, h with
  | some (.inl a, m), h => exact Or.inl ⟨a, m, rfl, h⟩
  | some (.inr e, m), h => exact Or.inr ⟨e, m, rfl, (Option.some.inj h).symm⟩
theorem x1_of {β : Type} {x : Option ((Unit ⊕ Nat) × Mem)} {K : Mem → Option ((β ⊕ Nat) × Mem)} {m : Mem} (h : x = some (.inl (), m)) : x1 x K = K m := by
  rw [h]
  rfl
theorem x2_of {α β : Type} {x : Option ((α ⊕ Nat) × Mem)} {K : α → Mem → Option ((β ⊕ Nat) × Mem)} {a : α} {m : Mem} (h : x = some (.inl a, m)) : x2 x K = K a m := by
  rw [h]
  rfl
theorem x1_th {β : Type} {x : Option ((Unit ⊕ Nat) × Mem)} {K : Mem → Option ((β ⊕ Nat) × Mem)} {e : Nat} {m : Mem} (h : x = some (.inr e, m)) : x1 x K = some (.inr e, m) := by
  rw [h]
  rfl
theorem x2_th {α β : Type} {x : Option ((α ⊕ Nat) × Mem)} {K : α → Mem → Option ((β ⊕ Nat) × Mem)} {e : Nat} {m : Mem} (h : x = some (.inr e, m)) : x2 x K = some (.inr e, m) := by
  rw [h]
  rfl
/-- a loop's end: its state as a tuple -/
def l1 {β : Type} (x : Option Mem) (K : Mem → Option β) : Option β := x.bind K
def l2 {a β : Type} (x : Option (a × Mem)) (K : a → Mem → Option β) : Option β := x.bind (fun t => K t.1 t.2)
def l3 {a b β : Type} (x : Option (a × b × Mem)) (K : a → b → Mem → Option β) : Option β := x.bind (fun t => K t.1 t.2.1 t.2.2)
def l4 {a b c β : Type} (x : Option (a × b × c × Mem)) (K : a → b → c → Mem → Option β) : Option β := x.bind (fun t => K t.1 t.2.1 t.2.2.1 t.2.2.2)
def l5 {a b c d β : Type} (x : Option (a × b × c × d × Mem)) (K : a → b → c → d → Mem → Option β) : Option β := x.bind (fun t => K t.1 t.2.1 t.2.2.1 t.2.2.2.1 t.2.2.2.2)
def l6 {a b c d e β : Type} (x : Option (a × b × c × d × e × Mem)) (K : a → b → c → d → e → Mem → Option β) : Option β := x.bind (fun t => K t.1 t.2.1 t.2.2.1 t.2.2.2.1 t.2.2.2.2.1 t.2.2.2.2.2)
def l7 {a b c d e f β : Type} (x : Option (a × b × c × d × e × f × Mem)) (K : a → b → c → d → e → f → Mem → Option β) : Option β := x.bind (fun t => K t.1 t.2.1 t.2.2.1 t.2.2.2.1 t.2.2.2.2.1 t.2.2.2.2.2.1 t.2.2.2.2.2.2)
def l8 {a b c d e f g β : Type} (x : Option (a × b × c × d × e × f × g × Mem)) (K : a → b → c → d → e → f → g → Mem → Option β) : Option β := x.bind (fun t => K t.1 t.2.1 t.2.2.1 t.2.2.2.1 t.2.2.2.2.1 t.2.2.2.2.2.1 t.2.2.2.2.2.2.1 t.2.2.2.2.2.2.2)
def l9 {a b c d e f g h β : Type} (x : Option (a × b × c × d × e × f × g × h × Mem)) (K : a → b → c → d → e → f → g → h → Mem → Option β) : Option β := x.bind (fun t => K t.1 t.2.1 t.2.2.1 t.2.2.2.1 t.2.2.2.2.1 t.2.2.2.2.2.1 t.2.2.2.2.2.2.1 t.2.2.2.2.2.2.2.1 t.2.2.2.2.2.2.2.2)
theorem ob_some {α β : Type} {x : Option α} {K : α → Option β} {o : β} (h : x.bind K = some o) : ∃ t, x = some t ∧ K t = some o := by
  cases x with
  | none => cases h
  | some t => exact ⟨t, rfl, h⟩
theorem l1_some {β : Type} {x : Option Mem} {K : Mem → Option β} {o : β} (h : l1 x K = some o) : ∃ m, x = some m ∧ K m = some o := ob_some h
theorem l2_some {a β : Type} {x : Option (a × Mem)} {K : a → Mem → Option β} {o : β} (h : l2 x K = some o) : ∃ y1 m, x = some (y1, m) ∧ K y1 m = some o := by
  obtain ⟨⟨y1, m⟩, h1, h2⟩ := ob_some h
  exact ⟨y1, m, h1, h2⟩
theorem l3_some {a b β : Type} {x : Option (a × b × Mem)} {K : a → b → Mem → Option β} {o : β} (h : l3 x K = some o) : ∃ y1 y2 m, x = some (y1, y2, m) ∧ K y1 y2 m = some o := by
  obtain ⟨⟨y1, y2, m⟩, h1, h2⟩ := ob_some h
  exact ⟨y1, y2, m, h1, h2⟩
theorem l4_some {a b c β : Type} {x : Option (a × b × c × Mem)} {K : a → b → c → Mem → Option β} {o : β} (h : l4 x K = some o) : ∃ y1 y2 y3 m, x = some (y1, y2, y3, m) ∧ K y1 y2 y3 m = some o := by
  obtain ⟨⟨y1, y2, y3, m⟩, h1, h2⟩ := ob_some h
  exact ⟨y1, y2, y3, m, h1, h2⟩
theorem l5_some {a b c d β : Type} {x : Option (a × b × c × d × Mem)} {K : a → b → c → d → Mem → Option β} {o : β} (h : l5 x K = some o) : ∃ y1 y2 y3 y4 m, x = some (y1, y2, y3, y4, m) ∧ K y1 y2 y3 y4 m = some o := by
  obtain ⟨⟨y1, y2, y3, y4, m⟩, h1, h2⟩ := ob_some h
  exact ⟨y1, y2, y3, y4, m, h1, h2⟩
theorem l6_some {a b c d e β : Type} {x : Option (a × b × c × d × e × Mem)} {K : a → b → c → d → e → Mem → Option β} {o : β} (h : l6 x K = some o) : ∃ y1 y2 y3 y4 y5 m, x = some (y1, y2, y3, y4, y5, m) ∧ K y1 y2 y3 y4 y5 m = some o := by
  obtain ⟨⟨y1, y2, y3, y4, y5, m⟩, h1, h2⟩ := ob_some h
  exact ⟨y1, y2, y3, y4, y5, m, h1, h2⟩
theorem l7_some {a b c d e f β : Type} {x : Option (a × b × c × d × e × f × Mem)} {K : a → b → c → d → e → f → Mem → Option β} {o : β} (h : l7 x K = some o) : ∃ y1 y2 y3 y4 y5 y6 m, x = some (y1, y2, y3, y4, y5, y6, m) ∧ K y1 y2 y3 y4 y5 y6 m = some o := by
  obtain ⟨⟨y1, y2, y3, y4, y5, y6, m⟩, h1, h2⟩ := ob_some h
  exact ⟨y1, y2, y3, y4, y5, y6, m, h1, h2⟩
theorem l8_some {a b c d e f g β : Type} {x : Option (a × b × c × d × e × f × g × Mem)} {K : a → b → c → d → e → f → g → Mem → Option β} {o : β} (h : l8 x K = some o) : ∃ y1 y2 y3 y4 y5 y6 y7 m, x = some (y1, y2, y3, y4, y5, y6, y7, m) ∧ K y1 y2 y3 y4 y5 y6 y7 m = some o := by
  obtain ⟨⟨y1, y2, y3, y4, y5, y6, y7, m⟩, h1, h2⟩ := ob_some h
  exact ⟨y1, y2, y3, y4, y5, y6, y7, m, h1, h2⟩
theorem l9_some {a b c d e f g h' β : Type} {x : Option (a × b × c × d × e × f × g × h' × Mem)} {K : a → b → c → d → e → f → g → h' → Mem → Option β} {o : β} (h : l9 x K = some o) : ∃ y1 y2 y3 y4 y5 y6 y7 y8 m, x = some (y1, y2, y3, y4, y5, y6, y7, y8, m) ∧ K y1 y2 y3 y4 y5 y6 y7 y8 m = some o := by
  obtain ⟨⟨y1, y2, y3, y4, y5, y6, y7, y8, m⟩, h1, h2⟩ := ob_some h
  exact ⟨y1, y2, y3, y4, y5, y6, y7, y8, m, h1, h2⟩
def inb (i : Int32) (n : Nat) : Bool := !(decide (i < 0) || decide (n ≤ i.toNatClampNeg))
theorem inb_vp {i : Int32} {n : Nat} (h : inb i n = true) : vp_in i n := by
  unfold vp_in
  simpa [inb] using h
def okA (c a : Nat) (i : Int32) : Bool := kd a == c && inb i (ln a)
theorem okA_k {c a : Nat} {i : Int32} (h : okA c a i = true) : kd a = c := by
  simp only [okA, Bool.and_eq_true, beq_iff_eq] at h
  exact h.1
theorem okA_i {c a : Nat} {i : Int32} (h : okA c a i = true) : vp_in i (ln a) := by
  simp only [okA, Bool.and_eq_true] at h
  exact inb_vp h.2
def isB (v : Int32) : Bool := v == 0 || v == 1
theorem isB_n {v : Int32} (h : isB v = true) : narrow .boolean (.int v) = .int v := by
  simp only [isB, Bool.or_eq_true, beq_iff_eq] at h
  rcases h with h | h <;> subst h <;> rfl
theorem isB_f {v : Int32} (h : isB v = true) : fits .boolean (.int v) = true := by
  simp only [isB, Bool.or_eq_true, beq_iff_eq] at h
  rcases h with h | h <;> subst h <;> decide
section ROWS
variable {Γ : Gc} {cc : ByteArray} {nL cs pc : Nat} {own : String} {rm : Room} {mem : Mem} {lv : List (Nat × Value)} {st : List Value}
theorem g_sub {lv' : List (Nat × Value)} (ks : List Nat) (h : lv_pick lv ks = lv') (k : G Γ nL cs mem pc lv' st) : G Γ nL cs mem pc lv st := fun H locs ls hl hw hS => k H locs ls (lv_sub hl ks h) hw hS
theorem g_widen {cs' : Nat} (h : cs ≤ cs') (k : G Γ nL cs' mem pc lv st) : G Γ nL cs mem pc lv st := fun H locs ls hl hw hS => W.widen h (by omega) (k H locs ls hl hw hS)
theorem g_iconst {n : Int} {v : Int32} (C : Cx Γ cc nL own rm) (hd : decode cc pc = .ok (.iconst n, 1)) (hv : Int32.ofInt n = v) (k : G Γ nL cs mem (pc + 1) lv (.int v :: st)) : G Γ nL cs mem pc lv (st) := fun H locs ls hl hw hS => lv_iconst C.1.1 C.1.2.1 hd hv (k H locs ls hl hw hS)
theorem g_bipush {n : Int} {v : Int32} (C : Cx Γ cc nL own rm) (hd : decode cc pc = .ok (.bipush n, 2)) (hv : (Int8.ofInt n).toInt32 = v) (k : G Γ nL cs mem (pc + 2) lv (.int v :: st)) : G Γ nL cs mem pc lv (st) := fun H locs ls hl hw hS => lv_bipush C.1.1 C.1.2.1 hd hv (k H locs ls hl hw hS)
theorem g_sipush {n : Int} {v : Int32} (C : Cx Γ cc nL own rm) (hd : decode cc pc = .ok (.sipush n, 3)) (hv : (Int16.ofInt n).toInt32 = v) (k : G Γ nL cs mem (pc + 3) lv (.int v :: st)) : G Γ nL cs mem pc lv (st) := fun H locs ls hl hw hS => lv_sipush C.1.1 C.1.2.1 hd hv (k H locs ls hl hw hS)
theorem g_lconst {n : Fin 2} {v : Int64} (C : Cx Γ cc nL own rm) (hd : decode cc pc = .ok (.lconst n, 1)) (hv : Int64.ofNat (n : Nat) = v) (k : G Γ nL cs mem (pc + 1) lv (.long v :: st)) : G Γ nL cs mem pc lv (st) := fun H locs ls hl hw hS => lv_lconst C.1.1 C.1.2.1 hd hv (k H locs ls hl hw hS)
theorem g_dconst0  (C : Cx Γ cc nL own rm) (hd : decode cc pc = .ok (.dconst 0, 1))  (k : G Γ nL cs mem (pc + 1) lv (.double FP.dconst0 :: st)) : G Γ nL cs mem pc lv (st) := fun H locs ls hl hw hS => lv_dconst0 C.1.1 C.1.2.1 hd  (k H locs ls hl hw hS)
theorem g_iload_n {j : Fin 4} {i : Nat} {x : Int32} (C : Cx Γ cc nL own rm) (hd : decode cc pc = .ok (.iload_n j, 1)) (q : Nat) (hi : (j : Nat) = i) (hq : lv[q]? = some (i, .int x)) (k : G Γ nL cs mem (pc + 1) lv (.int x :: st)) : G Γ nL cs mem pc lv (st) := fun H locs ls hl hw hS => lv_iload_n C.1.1 C.1.2.1 hd hi (lv_at hl q hq) (k H locs ls hl hw hS)
theorem g_iload {i : Nat} {x : Int32} (C : Cx Γ cc nL own rm) (hd : decode cc pc = .ok (.iload i, 2)) (q : Nat) (hq : lv[q]? = some (i, .int x)) (k : G Γ nL cs mem (pc + 2) lv (.int x :: st)) : G Γ nL cs mem pc lv (st) := fun H locs ls hl hw hS => lv_iload C.1.1 C.1.2.1 hd (lv_at hl q hq) (k H locs ls hl hw hS)
theorem g_istore_n {j : Fin 4} {i : Nat} {x : Int32} {lv' : List (Nat × Value)} (C : Cx Γ cc nL own rm) (hd : decode cc pc = .ok (.istore_n j, 1)) (hi : (j : Nat) = i) (hn : i < nL) (hl0 : (i, Value.int x) :: lv.filter (fun q => !(q.1 == i) && !(q.1 + 1 == i && q.2.category == 2)) = lv') (k : G Γ nL cs mem (pc + 1) lv' st) : G Γ nL cs mem pc lv (.int x :: st) := fun H locs ls hl hw hS => lv_istore_n C.1.1 C.1.2.1 hd hi hl hn hl0 (fun ls' hl' => k H locs ls' hl' hw hS)
theorem g_istore {i : Nat} {x : Int32} {lv' : List (Nat × Value)} (C : Cx Γ cc nL own rm) (hd : decode cc pc = .ok (.istore i, 2)) (hn : i < nL) (hl0 : (i, Value.int x) :: lv.filter (fun q => !(q.1 == i) && !(q.1 + 1 == i && q.2.category == 2)) = lv') (k : G Γ nL cs mem (pc + 2) lv' st) : G Γ nL cs mem pc lv (.int x :: st) := fun H locs ls hl hw hS => lv_istore C.1.1 C.1.2.1 hd hl hn hl0 (fun ls' hl' => k H locs ls' hl' hw hS)
theorem g_lload_n {j : Fin 4} {i : Nat} {x : Int64} (C : Cx Γ cc nL own rm) (hd : decode cc pc = .ok (.lload_n j, 1)) (q : Nat) (hi : (j : Nat) = i) (hq : lv[q]? = some (i, .long x)) (k : G Γ nL cs mem (pc + 1) lv (.long x :: st)) : G Γ nL cs mem pc lv (st) := fun H locs ls hl hw hS => lv_lload_n C.1.1 C.1.2.1 hd hi (lv_at hl q hq) (k H locs ls hl hw hS)
theorem g_lload {i : Nat} {x : Int64} (C : Cx Γ cc nL own rm) (hd : decode cc pc = .ok (.lload i, 2)) (q : Nat) (hq : lv[q]? = some (i, .long x)) (k : G Γ nL cs mem (pc + 2) lv (.long x :: st)) : G Γ nL cs mem pc lv (st) := fun H locs ls hl hw hS => lv_lload C.1.1 C.1.2.1 hd (lv_at hl q hq) (k H locs ls hl hw hS)
theorem g_lstore_n {j : Fin 4} {i : Nat} {x : Int64} {lv' : List (Nat × Value)} (C : Cx Γ cc nL own rm) (hd : decode cc pc = .ok (.lstore_n j, 1)) (hi : (j : Nat) = i) (hn : i + 1 < nL) (hl0 : (i, Value.long x) :: lv.filter (fun q => !(q.1 == i) && (!(q.1 == i + 1) && !(q.1 + 1 == i && q.2.category == 2))) = lv') (k : G Γ nL cs mem (pc + 1) lv' st) : G Γ nL cs mem pc lv (.long x :: st) := fun H locs ls hl hw hS => lv_lstore_n C.1.1 C.1.2.1 hd hi hl hn hl0 (fun ls' hl' => k H locs ls' hl' hw hS)
theorem g_lstore {i : Nat} {x : Int64} {lv' : List (Nat × Value)} (C : Cx Γ cc nL own rm) (hd : decode cc pc = .ok (.lstore i, 2)) (hn : i + 1 < nL) (hl0 : (i, Value.long x) :: lv.filter (fun q => !(q.1 == i) && (!(q.1 == i + 1) && !(q.1 + 1 == i && q.2.category == 2))) = lv') (k : G Γ nL cs mem (pc + 2) lv' st) : G Γ nL cs mem pc lv (.long x :: st) := fun H locs ls hl hw hS => lv_lstore C.1.1 C.1.2.1 hd hl hn hl0 (fun ls' hl' => k H locs ls' hl' hw hS)
theorem g_aload_n {j : Fin 4} {i : Nat} {x : Nat} (C : Cx Γ cc nL own rm) (hd : decode cc pc = .ok (.aload_n j, 1)) (q : Nat) (hi : (j : Nat) = i) (hq : lv[q]? = some (i, .ref x)) (k : G Γ nL cs mem (pc + 1) lv (.ref x :: st)) : G Γ nL cs mem pc lv (st) := fun H locs ls hl hw hS => lv_aload_n C.1.1 C.1.2.1 hd hi (lv_at hl q hq) (k H locs ls hl hw hS)
theorem g_aload {i : Nat} {x : Nat} (C : Cx Γ cc nL own rm) (hd : decode cc pc = .ok (.aload i, 2)) (q : Nat) (hq : lv[q]? = some (i, .ref x)) (k : G Γ nL cs mem (pc + 2) lv (.ref x :: st)) : G Γ nL cs mem pc lv (st) := fun H locs ls hl hw hS => lv_aload C.1.1 C.1.2.1 hd (lv_at hl q hq) (k H locs ls hl hw hS)
theorem g_astore_n {j : Fin 4} {i : Nat} {x : Nat} {lv' : List (Nat × Value)} (C : Cx Γ cc nL own rm) (hd : decode cc pc = .ok (.astore_n j, 1)) (hi : (j : Nat) = i) (hn : i < nL) (hl0 : (i, Value.ref x) :: lv.filter (fun q => !(q.1 == i) && !(q.1 + 1 == i && q.2.category == 2)) = lv') (k : G Γ nL cs mem (pc + 1) lv' st) : G Γ nL cs mem pc lv (.ref x :: st) := fun H locs ls hl hw hS => lv_astore_n C.1.1 C.1.2.1 hd hi hl hn hl0 (fun ls' hl' => k H locs ls' hl' hw hS)
theorem g_astore {i : Nat} {x : Nat} {lv' : List (Nat × Value)} (C : Cx Γ cc nL own rm) (hd : decode cc pc = .ok (.astore i, 2)) (hn : i < nL) (hl0 : (i, Value.ref x) :: lv.filter (fun q => !(q.1 == i) && !(q.1 + 1 == i && q.2.category == 2)) = lv') (k : G Γ nL cs mem (pc + 2) lv' st) : G Γ nL cs mem pc lv (.ref x :: st) := fun H locs ls hl hw hS => lv_astore C.1.1 C.1.2.1 hd hl hn hl0 (fun ls' hl' => k H locs ls' hl' hw hS)
theorem g_dload_n {j : Fin 4} {i : Nat} {x : UInt64} (C : Cx Γ cc nL own rm) (hd : decode cc pc = .ok (.dload_n j, 1)) (q : Nat) (hi : (j : Nat) = i) (hq : lv[q]? = some (i, .double x)) (k : G Γ nL cs mem (pc + 1) lv (.double x :: st)) : G Γ nL cs mem pc lv (st) := fun H locs ls hl hw hS => lv_dload_n C.1.1 C.1.2.1 hd hi (lv_at hl q hq) (k H locs ls hl hw hS)
theorem g_dload {i : Nat} {x : UInt64} (C : Cx Γ cc nL own rm) (hd : decode cc pc = .ok (.dload i, 2)) (q : Nat) (hq : lv[q]? = some (i, .double x)) (k : G Γ nL cs mem (pc + 2) lv (.double x :: st)) : G Γ nL cs mem pc lv (st) := fun H locs ls hl hw hS => lv_dload C.1.1 C.1.2.1 hd (lv_at hl q hq) (k H locs ls hl hw hS)
theorem g_dstore_n {j : Fin 4} {i : Nat} {x : UInt64} {lv' : List (Nat × Value)} (C : Cx Γ cc nL own rm) (hd : decode cc pc = .ok (.dstore_n j, 1)) (hi : (j : Nat) = i) (hn : i + 1 < nL) (hl0 : (i, Value.double x) :: lv.filter (fun q => !(q.1 == i) && (!(q.1 == i + 1) && !(q.1 + 1 == i && q.2.category == 2))) = lv') (k : G Γ nL cs mem (pc + 1) lv' st) : G Γ nL cs mem pc lv (.double x :: st) := fun H locs ls hl hw hS => lv_dstore_n C.1.1 C.1.2.1 hd hi hl hn hl0 (fun ls' hl' => k H locs ls' hl' hw hS)
theorem g_dstore {i : Nat} {x : UInt64} {lv' : List (Nat × Value)} (C : Cx Γ cc nL own rm) (hd : decode cc pc = .ok (.dstore i, 2)) (hn : i + 1 < nL) (hl0 : (i, Value.double x) :: lv.filter (fun q => !(q.1 == i) && (!(q.1 == i + 1) && !(q.1 + 1 == i && q.2.category == 2))) = lv') (k : G Γ nL cs mem (pc + 2) lv' st) : G Γ nL cs mem pc lv (.double x :: st) := fun H locs ls hl hw hS => lv_dstore C.1.1 C.1.2.1 hd hl hn hl0 (fun ls' hl' => k H locs ls' hl' hw hS)
theorem g_iinc {i q : Nat} {n : Int} {x v : Int32} {lv' : List (Nat × Value)} (C : Cx Γ cc nL own rm) (hd : decode cc pc = .ok (.iinc i n, 3)) (hq : lv[q]? = some (i, .int x)) (hv : x + Int32.ofInt n = v) (hn : i < nL) (hl0 : (i, Value.int v) :: lv.filter (fun q => !(q.1 == i) && !(q.1 + 1 == i && q.2.category == 2)) = lv') (k : G Γ nL cs mem (pc + 3) lv' st) : G Γ nL cs mem pc lv st := fun H locs ls hl hw hS => lv_iinc C.1.1 C.1.2.1 hd hl hq hv hn hl0 (fun ls' hl' => k H locs ls' hl' hw hS)
theorem g_iadd {x y : Int32} (C : Cx Γ cc nL own rm) (hd : decode cc pc = .ok (.iadd, 1))  (k : G Γ nL cs mem (pc + 1) lv (.int (x + y) :: st)) : G Γ nL cs mem pc lv (.int y :: .int x :: st) := fun H locs ls hl hw hS => lv_iadd C.1.1 C.1.2.1 hd  (k H locs ls hl hw hS)
theorem g_isub {x y : Int32} (C : Cx Γ cc nL own rm) (hd : decode cc pc = .ok (.isub, 1))  (k : G Γ nL cs mem (pc + 1) lv (.int (x - y) :: st)) : G Γ nL cs mem pc lv (.int y :: .int x :: st) := fun H locs ls hl hw hS => lv_isub C.1.1 C.1.2.1 hd  (k H locs ls hl hw hS)
theorem g_imul {x y : Int32} (C : Cx Γ cc nL own rm) (hd : decode cc pc = .ok (.imul, 1))  (k : G Γ nL cs mem (pc + 1) lv (.int (x * y) :: st)) : G Γ nL cs mem pc lv (.int y :: .int x :: st) := fun H locs ls hl hw hS => lv_imul C.1.1 C.1.2.1 hd  (k H locs ls hl hw hS)
theorem g_iand {x y : Int32} (C : Cx Γ cc nL own rm) (hd : decode cc pc = .ok (.iand, 1))  (k : G Γ nL cs mem (pc + 1) lv (.int (x &&& y) :: st)) : G Γ nL cs mem pc lv (.int y :: .int x :: st) := fun H locs ls hl hw hS => lv_iand C.1.1 C.1.2.1 hd  (k H locs ls hl hw hS)
theorem g_ior {x y : Int32} (C : Cx Γ cc nL own rm) (hd : decode cc pc = .ok (.ior, 1))  (k : G Γ nL cs mem (pc + 1) lv (.int (x ||| y) :: st)) : G Γ nL cs mem pc lv (.int y :: .int x :: st) := fun H locs ls hl hw hS => lv_ior C.1.1 C.1.2.1 hd  (k H locs ls hl hw hS)
theorem g_ixor {x y : Int32} (C : Cx Γ cc nL own rm) (hd : decode cc pc = .ok (.ixor, 1))  (k : G Γ nL cs mem (pc + 1) lv (.int (x ^^^ y) :: st)) : G Γ nL cs mem pc lv (.int y :: .int x :: st) := fun H locs ls hl hw hS => lv_ixor C.1.1 C.1.2.1 hd  (k H locs ls hl hw hS)
theorem g_ishl {x y : Int32} (C : Cx Γ cc nL own rm) (hd : decode cc pc = .ok (.ishl, 1))  (k : G Γ nL cs mem (pc + 1) lv (.int (x <<< (y &&& 31)) :: st)) : G Γ nL cs mem pc lv (.int y :: .int x :: st) := fun H locs ls hl hw hS => lv_ishl C.1.1 C.1.2.1 hd  (k H locs ls hl hw hS)
theorem g_ishr {x y : Int32} (C : Cx Γ cc nL own rm) (hd : decode cc pc = .ok (.ishr, 1))  (k : G Γ nL cs mem (pc + 1) lv (.int (x >>> (y &&& 31)) :: st)) : G Γ nL cs mem pc lv (.int y :: .int x :: st) := fun H locs ls hl hw hS => lv_ishr C.1.1 C.1.2.1 hd  (k H locs ls hl hw hS)
theorem g_ineg {x : Int32} (C : Cx Γ cc nL own rm) (hd : decode cc pc = .ok (.ineg, 1))  (k : G Γ nL cs mem (pc + 1) lv (.int (-x) :: st)) : G Γ nL cs mem pc lv (.int x :: st) := fun H locs ls hl hw hS => lv_ineg C.1.1 C.1.2.1 hd  (k H locs ls hl hw hS)
theorem g_idiv {x y : Int32} (C : Cx Γ cc nL own rm) (hd : decode cc pc = .ok (.idiv, 1)) (hne : ¬ y = 0) (k : G Γ nL cs mem (pc + 1) lv (.int (x / y) :: st)) : G Γ nL cs mem pc lv (.int y :: .int x :: st) := fun H locs ls hl hw hS => lv_idiv C.1.1 C.1.2.1 hd hne (k H locs ls hl hw hS)
def iushr (x y : Int32) : Int32 := (x.toUInt32 >>> (y.toUInt32 &&& Int32.toUInt32 31)).toInt32
theorem g_iushr {x y : Int32} (C : Cx Γ cc nL own rm) (hd : decode cc pc = .ok (.iushr, 1))  (k : G Γ nL cs mem (pc + 1) lv (.int (iushr x y) :: st)) : G Γ nL cs mem pc lv (.int y :: .int x :: st) := fun H locs ls hl hw hS => lv_iushr C.1.1 C.1.2.1 hd rfl (k H locs ls hl hw hS)
theorem g_ladd {x y : Int64} (C : Cx Γ cc nL own rm) (hd : decode cc pc = .ok (.ladd, 1))  (k : G Γ nL cs mem (pc + 1) lv (.long (x + y) :: st)) : G Γ nL cs mem pc lv (.long y :: .long x :: st) := fun H locs ls hl hw hS => lv_ladd C.1.1 C.1.2.1 hd  (k H locs ls hl hw hS)
theorem g_lsub {x y : Int64} (C : Cx Γ cc nL own rm) (hd : decode cc pc = .ok (.lsub, 1))  (k : G Γ nL cs mem (pc + 1) lv (.long (x - y) :: st)) : G Γ nL cs mem pc lv (.long y :: .long x :: st) := fun H locs ls hl hw hS => lv_lsub C.1.1 C.1.2.1 hd  (k H locs ls hl hw hS)
theorem g_lmul {x y : Int64} (C : Cx Γ cc nL own rm) (hd : decode cc pc = .ok (.lmul, 1))  (k : G Γ nL cs mem (pc + 1) lv (.long (x * y) :: st)) : G Γ nL cs mem pc lv (.long y :: .long x :: st) := fun H locs ls hl hw hS => lv_lmul C.1.1 C.1.2.1 hd  (k H locs ls hl hw hS)
theorem g_ldiv {x y : Int64} (C : Cx Γ cc nL own rm) (hd : decode cc pc = .ok (.ldiv, 1)) (hne : ¬ y = 0) (k : G Γ nL cs mem (pc + 1) lv (.long (x / y) :: st)) : G Γ nL cs mem pc lv (.long y :: .long x :: st) := fun H locs ls hl hw hS => lv_ldiv C.1.1 C.1.2.1 hd hne (k H locs ls hl hw hS)
theorem g_lrem {x y : Int64} (C : Cx Γ cc nL own rm) (hd : decode cc pc = .ok (.lrem, 1)) (hne : ¬ y = 0) (k : G Γ nL cs mem (pc + 1) lv (.long (x - x / y * y) :: st)) : G Γ nL cs mem pc lv (.long y :: .long x :: st) := fun H locs ls hl hw hS => lv_lrem C.1.1 C.1.2.1 hd hne (k H locs ls hl hw hS)
theorem g_lcmp {x y : Int64} (C : Cx Γ cc nL own rm) (hd : decode cc pc = .ok (.lcmp, 1))  (k : G Γ nL cs mem (pc + 1) lv (.int (lg_cmp x y) :: st)) : G Γ nL cs mem pc lv (.long y :: .long x :: st) := fun H locs ls hl hw hS => W.lcmp C.1.1 C.1.2.1 hd  (k H locs ls hl hw hS)
theorem g_i2l {x : Int32} (C : Cx Γ cc nL own rm) (hd : decode cc pc = .ok (.i2l, 1))  (k : G Γ nL cs mem (pc + 1) lv (.long x.toInt64 :: st)) : G Γ nL cs mem pc lv (.int x :: st) := fun H locs ls hl hw hS => lv_i2l C.1.1 C.1.2.1 hd rfl (k H locs ls hl hw hS)
theorem g_l2i {x : Int64} (C : Cx Γ cc nL own rm) (hd : decode cc pc = .ok (.l2i, 1))  (k : G Γ nL cs mem (pc + 1) lv (.int x.toInt32 :: st)) : G Γ nL cs mem pc lv (.long x :: st) := fun H locs ls hl hw hS => lv_l2i C.1.1 C.1.2.1 hd rfl (k H locs ls hl hw hS)
theorem g_i2b {x : Int32} (C : Cx Γ cc nL own rm) (hd : decode cc pc = .ok (.i2b, 1))  (k : G Γ nL cs mem (pc + 1) lv (.int x.toInt8.toInt32 :: st)) : G Γ nL cs mem pc lv (.int x :: st) := fun H locs ls hl hw hS => lv_i2b C.1.1 C.1.2.1 hd rfl (k H locs ls hl hw hS)
theorem g_i2d {x : Int32} (C : Cx Γ cc nL own rm) (hd : decode cc pc = .ok (.i2d, 1))  (k : G Γ nL cs mem (pc + 1) lv (.double (FP.i2d x) :: st)) : G Γ nL cs mem pc lv (.int x :: st) := fun H locs ls hl hw hS => lv_i2d C.1.1 C.1.2.1 hd  (k H locs ls hl hw hS)
def okN (r : UInt64) : Bool := decide (r &&& 0x7fffffffffffffff ≤ 0x7ff0000000000000)
theorem okN_v {r : UInt64} (h : okN r = true) : vf_n64 r := by
  unfold vf_n64
  simpa [okN] using h
theorem g_ddiv {x y : UInt64} (C : Cx Γ cc nL own rm) (hd : decode cc pc = .ok (.ddiv, 1)) (hne : okN (FP.ddiv x y) = true) (k : G Γ nL cs mem (pc + 1) lv (.double (FP.ddiv x y) :: st)) : G Γ nL cs mem pc lv (.double y :: .double x :: st) := fun H locs ls hl hw hS => lv_ddiv C.1.1 C.1.2.1 hd (okN_v hne) (k H locs ls hl hw hS)
theorem g_dsub {x y : UInt64} (C : Cx Γ cc nL own rm) (hd : decode cc pc = .ok (.dsub, 1)) (hne : okN (FP.dsub x y) = true) (k : G Γ nL cs mem (pc + 1) lv (.double (FP.dsub x y) :: st)) : G Γ nL cs mem pc lv (.double y :: .double x :: st) := fun H locs ls hl hw hS => lv_dsub C.1.1 C.1.2.1 hd (okN_v hne) (k H locs ls hl hw hS)
theorem g_dcmp {x y : UInt64} {op : CmpOp} (C : Cx Γ cc nL own rm) (hd : decode cc pc = .ok (.dcmp op, 1))  (k : G Γ nL cs mem (pc + 1) lv (.int (Op.cmpValue (FP.dcmp x y) op) :: st)) : G Γ nL cs mem pc lv (.double y :: .double x :: st) := fun H locs ls hl hw hS => lv_dcmp C.1.1 C.1.2.1 hd  (k H locs ls hl hw hS)
theorem g_dup {va : Value} (C : Cx Γ cc nL own rm) (hd : decode cc pc = .ok (.dup, 1)) (hva : va.category = 1) (k : G Γ nL cs mem (pc + 1) lv (va :: va :: st)) : G Γ nL cs mem pc lv (va :: st) := fun H locs ls hl hw hS => lv_dup C.1.1 C.1.2.1 hd hva (k H locs ls hl hw hS)
theorem g_pop {va : Value} (C : Cx Γ cc nL own rm) (hd : decode cc pc = .ok (.pop, 1)) (hva : va.category = 1) (k : G Γ nL cs mem (pc + 1) lv (st)) : G Γ nL cs mem pc lv (va :: st) := fun H locs ls hl hw hS => lv_pop C.1.1 C.1.2.1 hd hva (k H locs ls hl hw hS)
theorem g_dup2 {va vb : Value} (C : Cx Γ cc nL own rm) (hd : decode cc pc = .ok (.dup2, 1)) (hva : va.category = 1) (hvb : vb.category = 1) (k : G Γ nL cs mem (pc + 1) lv (va :: vb :: va :: vb :: st)) : G Γ nL cs mem pc lv (va :: vb :: st) := fun H locs ls hl hw hS => lv_dup2_11 C.1.1 C.1.2.1 hd hva hvb (k H locs ls hl hw hS)
theorem g_goto {off : Int} {tgt : Nat} (C : Cx Γ cc nL own rm) (hd : decode cc pc = .ok (.goto off, 3)) (ht : (pc : Int) + off = (tgt : Int)) (k : G Γ nL cs mem tgt lv st) : G Γ nL cs mem pc lv st := fun H locs ls hl hw hS => lv_goto C.1.1 C.1.2.1 hd ht (k H locs ls hl hw hS)
theorem g_if_eq {x : Int32} {off : Int} {tgt : Nat} (C : Cx Γ cc nL own rm) (hd : decode cc pc = .ok (.ifCond .eq off, 3)) (ht : (pc : Int) + off = (tgt : Int)) (kt : x = 0 → G Γ nL cs mem tgt lv st) (kf : ¬ x = 0 → G Γ nL cs mem (pc + 3) lv st) : G Γ nL cs mem pc lv (.int x :: st) := fun H locs ls hl hw hS => lv_if_eq C.1.1 C.1.2.1 hd ht (fun hc => kt hc H locs ls hl hw hS) (fun hc => kf hc H locs ls hl hw hS)
theorem g_if_ne {x : Int32} {off : Int} {tgt : Nat} (C : Cx Γ cc nL own rm) (hd : decode cc pc = .ok (.ifCond .ne off, 3)) (ht : (pc : Int) + off = (tgt : Int)) (kt : ¬ x = 0 → G Γ nL cs mem tgt lv st) (kf : x = 0 → G Γ nL cs mem (pc + 3) lv st) : G Γ nL cs mem pc lv (.int x :: st) := fun H locs ls hl hw hS => lv_if_ne C.1.1 C.1.2.1 hd ht (fun hc => kt hc H locs ls hl hw hS) (fun hc => kf hc H locs ls hl hw hS)
theorem g_if_lt {x : Int32} {off : Int} {tgt : Nat} (C : Cx Γ cc nL own rm) (hd : decode cc pc = .ok (.ifCond .lt off, 3)) (ht : (pc : Int) + off = (tgt : Int)) (kt : x < 0 → G Γ nL cs mem tgt lv st) (kf : ¬ x < 0 → G Γ nL cs mem (pc + 3) lv st) : G Γ nL cs mem pc lv (.int x :: st) := fun H locs ls hl hw hS => lv_if_lt C.1.1 C.1.2.1 hd ht (fun hc => kt hc H locs ls hl hw hS) (fun hc => kf hc H locs ls hl hw hS)
theorem g_if_ge {x : Int32} {off : Int} {tgt : Nat} (C : Cx Γ cc nL own rm) (hd : decode cc pc = .ok (.ifCond .ge off, 3)) (ht : (pc : Int) + off = (tgt : Int)) (kt : 0 ≤ x → G Γ nL cs mem tgt lv st) (kf : ¬ 0 ≤ x → G Γ nL cs mem (pc + 3) lv st) : G Γ nL cs mem pc lv (.int x :: st) := fun H locs ls hl hw hS => lv_if_ge C.1.1 C.1.2.1 hd ht (fun hc => kt hc H locs ls hl hw hS) (fun hc => kf hc H locs ls hl hw hS)
theorem g_if_gt {x : Int32} {off : Int} {tgt : Nat} (C : Cx Γ cc nL own rm) (hd : decode cc pc = .ok (.ifCond .gt off, 3)) (ht : (pc : Int) + off = (tgt : Int)) (kt : 0 < x → G Γ nL cs mem tgt lv st) (kf : ¬ 0 < x → G Γ nL cs mem (pc + 3) lv st) : G Γ nL cs mem pc lv (.int x :: st) := fun H locs ls hl hw hS => lv_if_gt C.1.1 C.1.2.1 hd ht (fun hc => kt hc H locs ls hl hw hS) (fun hc => kf hc H locs ls hl hw hS)
theorem g_if_le {x : Int32} {off : Int} {tgt : Nat} (C : Cx Γ cc nL own rm) (hd : decode cc pc = .ok (.ifCond .le off, 3)) (ht : (pc : Int) + off = (tgt : Int)) (kt : x ≤ 0 → G Γ nL cs mem tgt lv st) (kf : ¬ x ≤ 0 → G Γ nL cs mem (pc + 3) lv st) : G Γ nL cs mem pc lv (.int x :: st) := fun H locs ls hl hw hS => lv_if_le C.1.1 C.1.2.1 hd ht (fun hc => kt hc H locs ls hl hw hS) (fun hc => kf hc H locs ls hl hw hS)
theorem g_icmp_eq {x y : Int32} {off : Int} {tgt : Nat} (C : Cx Γ cc nL own rm) (hd : decode cc pc = .ok (.if_icmp .eq off, 3)) (ht : (pc : Int) + off = (tgt : Int)) (kt : x = y → G Γ nL cs mem tgt lv st) (kf : ¬ x = y → G Γ nL cs mem (pc + 3) lv st) : G Γ nL cs mem pc lv (.int y :: .int x :: st) := fun H locs ls hl hw hS => lv_icmp_eq C.1.1 C.1.2.1 hd ht (fun hc => kt hc H locs ls hl hw hS) (fun hc => kf hc H locs ls hl hw hS)
theorem g_icmp_ne {x y : Int32} {off : Int} {tgt : Nat} (C : Cx Γ cc nL own rm) (hd : decode cc pc = .ok (.if_icmp .ne off, 3)) (ht : (pc : Int) + off = (tgt : Int)) (kt : ¬ x = y → G Γ nL cs mem tgt lv st) (kf : x = y → G Γ nL cs mem (pc + 3) lv st) : G Γ nL cs mem pc lv (.int y :: .int x :: st) := fun H locs ls hl hw hS => lv_icmp_ne C.1.1 C.1.2.1 hd ht (fun hc => kt hc H locs ls hl hw hS) (fun hc => kf hc H locs ls hl hw hS)
theorem g_icmp_lt {x y : Int32} {off : Int} {tgt : Nat} (C : Cx Γ cc nL own rm) (hd : decode cc pc = .ok (.if_icmp .lt off, 3)) (ht : (pc : Int) + off = (tgt : Int)) (kt : x < y → G Γ nL cs mem tgt lv st) (kf : ¬ x < y → G Γ nL cs mem (pc + 3) lv st) : G Γ nL cs mem pc lv (.int y :: .int x :: st) := fun H locs ls hl hw hS => lv_icmp_lt C.1.1 C.1.2.1 hd ht (fun hc => kt hc H locs ls hl hw hS) (fun hc => kf hc H locs ls hl hw hS)
theorem g_icmp_ge {x y : Int32} {off : Int} {tgt : Nat} (C : Cx Γ cc nL own rm) (hd : decode cc pc = .ok (.if_icmp .ge off, 3)) (ht : (pc : Int) + off = (tgt : Int)) (kt : y ≤ x → G Γ nL cs mem tgt lv st) (kf : ¬ y ≤ x → G Γ nL cs mem (pc + 3) lv st) : G Γ nL cs mem pc lv (.int y :: .int x :: st) := fun H locs ls hl hw hS => lv_icmp_ge C.1.1 C.1.2.1 hd ht (fun hc => kt hc H locs ls hl hw hS) (fun hc => kf hc H locs ls hl hw hS)
theorem g_icmp_gt {x y : Int32} {off : Int} {tgt : Nat} (C : Cx Γ cc nL own rm) (hd : decode cc pc = .ok (.if_icmp .gt off, 3)) (ht : (pc : Int) + off = (tgt : Int)) (kt : y < x → G Γ nL cs mem tgt lv st) (kf : ¬ y < x → G Γ nL cs mem (pc + 3) lv st) : G Γ nL cs mem pc lv (.int y :: .int x :: st) := fun H locs ls hl hw hS => lv_icmp_gt C.1.1 C.1.2.1 hd ht (fun hc => kt hc H locs ls hl hw hS) (fun hc => kf hc H locs ls hl hw hS)
theorem g_icmp_le {x y : Int32} {off : Int} {tgt : Nat} (C : Cx Γ cc nL own rm) (hd : decode cc pc = .ok (.if_icmp .le off, 3)) (ht : (pc : Int) + off = (tgt : Int)) (kt : x ≤ y → G Γ nL cs mem tgt lv st) (kf : ¬ x ≤ y → G Γ nL cs mem (pc + 3) lv st) : G Γ nL cs mem pc lv (.int y :: .int x :: st) := fun H locs ls hl hw hS => lv_icmp_le C.1.1 C.1.2.1 hd ht (fun hc => kt hc H locs ls hl hw hS) (fun hc => kf hc H locs ls hl hw hS)
theorem g_ldc {i : Nat} {v : Int32} (C : Cx Γ cc nL own rm) (hd : decode cc pc = .ok (.ldc i, 2)) (hc : Cond.constant own i v ∈ TT) (k : G Γ nL cs mem (pc + 2) lv (.int v :: st)) : G Γ nL cs mem pc lv st := fun H locs ls hl hw hS => lv_ldc C.1.1 C.1.2.1 C.1.2.2.2.1 (C.1.2.2.2.2 _ hc) hd (k H locs ls hl hw hS)
theorem g_ldc_w {i : Nat} {v : Int32} (C : Cx Γ cc nL own rm) (hd : decode cc pc = .ok (.ldc_w i, 3)) (hc : Cond.constant own i v ∈ TT) (k : G Γ nL cs mem (pc + 3) lv (.int v :: st)) : G Γ nL cs mem pc lv st := fun H locs ls hl hw hS => lv_ldcw C.1.1 C.1.2.1 C.1.2.2.2.1 (C.1.2.2.2.2 _ hc) hd (k H locs ls hl hw hS)
theorem g_ldc2 {i : Nat} {v : Int64} (C : Cx Γ cc nL own rm) (hd : decode cc pc = .ok (.ldc2_w i, 3)) (hc : Cond.constantLong own i v ∈ TT) (k : G Γ nL cs mem (pc + 3) lv (.long v :: st)) : G Γ nL cs mem pc lv st := fun H locs ls hl hw hS => lv_ldc2 C.1.1 C.1.2.1 C.1.2.2.2.1 (C.1.2.2.2.2 _ hc) hd (k H locs ls hl hw hS)
theorem g_ldcS {i n : Nat} {tx : String} (C : Cx Γ cc nL own rm) (hd : decode cc pc = .ok (.ldc i, 2)) (hq : (own, i, tx, n) ∈ strW) (k : G Γ nL cs mem (pc + 2) lv (.ref (oK (gw Γ) n) :: st)) : G Γ nL cs mem pc lv st := fun H locs ls hl hw hS => va_ldcS C.1.1 C.1.2.1 C.1.2.2.2.1 (C.2.1.2.2.2.2.1 _ hq) hd (k H locs ls hl hw hS)
theorem g_tin {dflt lo hi : Int} {offs : Array Int} {len : Nat} {x : Int32} {off : Int} {tgt : Nat} (C : Cx Γ cc nL own rm) (hd : decode cc pc = .ok (.tableswitch dflt lo hi offs, len)) (h1 : ¬ x.toInt < lo) (h2 : ¬ hi < x.toInt) (ho : offs[(x.toInt - lo).toNat]? = some off) (ht : (pc : Int) + off = (tgt : Int)) (k : G Γ nL cs mem tgt lv st) : G Γ nL cs mem pc lv (.int x :: st) := fun H locs ls hl hw hS => lv_tableIn C.1.1 C.1.2.1 hd h1 h2 ho ht (k H locs ls hl hw hS)
theorem g_tout {dflt lo hi : Int} {offs : Array Int} {len : Nat} {x : Int32} {tgt : Nat} (C : Cx Γ cc nL own rm) (hd : decode cc pc = .ok (.tableswitch dflt lo hi offs, len)) (h : x.toInt < lo ∨ hi < x.toInt) (ht : (pc : Int) + dflt = (tgt : Int)) (k : G Γ nL cs mem tgt lv st) : G Γ nL cs mem pc lv (.int x :: st) := fun H locs ls hl hw hS => lv_tableOut C.1.1 C.1.2.1 hd h ht (k H locs ls hl hw hS)
theorem g_getI {a ci j idx : Nat} {Cn : String} {T : u_T} {N : Nat} (C : Cx Γ cc nL own rm) (hd : decode cc pc = .ok (.getfield idx, 3)) (hc : vwCl[ci]? = some (Cn, T, N)) (hci : ci ≤ 10) (hN : nfL.getD ci 0 = N) (hin : ∀ w ∈ u_ws Cn T N, w ∈ TT) (hj : j < N) (hl0 : Cond.fieldLink own idx (T j).1 (T j).2.1 (T j).2.2.1 ∈ TT) (hr : rfd ci j = false) (ha : (kd a == ci) = true) (k : G Γ nL cs mem (pc + 3) lv (.int (gI mem a j) :: st)) : G Γ nL cs mem pc lv (.ref (oa (gw Γ) a) :: st) := by
  intro H locs ls hl hw hS
  have ha := beq_iff_eq.mp ha
  have hk : a < NC := kd_lt (by rw [ha]; omega)
  have he := pw_get (w := gw Γ) (m := mem) hk
  rw [en_obj ha hci] at he
  have hv : (fv (gw Γ) mem a ci)[j]? = some (.int (gI mem a j)) := by
    rw [fv_get hN hj]
    unfold fvj
    rw [if_neg (by rw [hr]; decide)]
  exact va_get C.1.1 C.1.2.1 C.1.2.2.2.2 hin C.1.2.2.2.1 C.2.1.1 hw.1 a he hc j hj (C.1.2.2.2.2 _ hl0) (fun _ h => h) hv hd (k H locs ls hl hw hS)
theorem g_getR {a ci j idx : Nat} {Cn : String} {T : u_T} {N : Nat} (C : Cx Γ cc nL own rm) (hd : decode cc pc = .ok (.getfield idx, 3)) (hc : vwCl[ci]? = some (Cn, T, N)) (hci : ci ≤ 10) (hN : nfL.getD ci 0 = N) (hin : ∀ w ∈ u_ws Cn T N, w ∈ TT) (hj : j < N) (hl0 : Cond.fieldLink own idx (T j).1 (T j).2.1 (T j).2.2.1 ∈ TT) (hr : rfd ci j = true) (hm : muf ci j = true) (ha : (kd a == ci) = true) (k : G Γ nL cs mem (pc + 3) lv (.ref (oa (gw Γ) (gR mem a j)) :: st)) : G Γ nL cs mem pc lv (.ref (oa (gw Γ) a) :: st) := by
  intro H locs ls hl hw hS
  have ha := beq_iff_eq.mp ha
  have hk : a < NC := kd_lt (by rw [ha]; omega)
  have he := pw_get (w := gw Γ) (m := mem) hk
  rw [en_obj ha hci] at he
  have hv : (fv (gw Γ) mem a ci)[j]? = some (.ref (oa (gw Γ) (gR mem a j))) := by
    rw [fv_get hN hj]
    unfold fvj
    rw [if_pos hr, if_pos hm]
  exact va_get C.1.1 C.1.2.1 C.1.2.2.2.2 hin C.1.2.2.2.1 C.2.1.1 hw.1 a he hc j hj (C.1.2.2.2.2 _ hl0) (fun _ h => h) hv hd (k H locs ls hl hw hS)
theorem g_getT {b : Nat} {a ci j idx : Nat} {Cn : String} {T : u_T} {N : Nat} (C : Cx Γ cc nL own rm) (hd : decode cc pc = .ok (.getfield idx, 3)) (hc : vwCl[ci]? = some (Cn, T, N)) (hci : ci ≤ 10) (hN : nfL.getD ci 0 = N) (hin : ∀ w ∈ u_ws Cn T N, w ∈ TT) (hj : j < N) (hl0 : Cond.fieldLink own idx (T j).1 (T j).2.1 (T j).2.2.1 ∈ TT) (hr : rfd ci j = true) (hm : muf ci j = false) (hb : rt a j = b) (ha : (kd a == ci) = true) (k : G Γ nL cs mem (pc + 3) lv (.ref (oa (gw Γ) (b)) :: st)) : G Γ nL cs mem pc lv (.ref (oa (gw Γ) a) :: st) := by
  intro H locs ls hl hw hS
  have ha := beq_iff_eq.mp ha
  have hk : a < NC := kd_lt (by rw [ha]; omega)
  have he := pw_get (w := gw Γ) (m := mem) hk
  rw [en_obj ha hci] at he
  have hv : (fv (gw Γ) mem a ci)[j]? = some (.ref (oa (gw Γ) (b))) := by
    rw [fv_get hN hj]
    unfold fvj
    rw [if_pos hr, if_neg (by rw [hm]; decide), hb]
  exact va_get C.1.1 C.1.2.1 C.1.2.2.2.2 hin C.1.2.2.2.1 C.2.1.1 hw.1 a he hc j hj (C.1.2.2.2.2 _ hl0) (fun _ h => h) hv hd (k H locs ls hl hw hS)
theorem g_putI {x : Int32} {a ci j idx : Nat} {Cn : String} {T : u_T} {N : Nat} (C : Cx Γ cc nL own rm) (hd : decode cc pc = .ok (.putfield idx, 3)) (hc : vwCl[ci]? = some (Cn, T, N)) (hci : ci ≤ 10) (hN : nfL.getD ci 0 = N) (hin : ∀ w ∈ u_ws Cn T N, w ∈ TT) (hj : j < N) (hl0 : Cond.fieldLink own idx (T j).1 (T j).2.1 (T j).2.2.1 ∈ TT) (ty0 : Nat → FieldType) (hty : ∀ k, k < N → parseFieldDescriptor (T k).2.2.1 = some (ty0 k)) (hnm : ∀ a, a < N → ∀ b, b < N → a ≠ b → (T a).2.1 ≠ (T b).2.1) (hfin : (T j).2.2.2 = false) (hr : rfd ci j = false) (ha : (kd a == ci) = true) (hn : narrow (ty0 j) (.int x) = .int x) (hfit : fits (ty0 j) (.int x) = true) (k : G Γ nL cs (sI mem a j x) (pc + 3) lv st) : G Γ nL cs mem pc lv (.int x :: .ref (oa (gw Γ) a) :: st) := by
  intro H locs ls hl hw hS
  have ha := beq_iff_eq.mp ha
  have hk : a < NC := kd_lt (by rw [ha]; omega)
  have he := pw_get (w := gw Γ) (m := mem) hk
  rw [en_obj ha hci] at he
  have hfs : (fv (gw Γ) mem a ci).set j (.int x) = fv (gw Γ) (sI mem a j x) a ci := by
    refine fv_set ?_ (fun b hb => ?_)
    · unfold fvj
      rw [if_neg (by rw [hr]; decide)]
      rw [gI_sI, if_pos ⟨rfl, rfl⟩]
    · unfold fvj
      split
      · first | rfl | rw [gI_sI, if_neg (show ¬ (a = a ∧ b = j) from fun q => hb q.2)]
      · first | rfl | rw [gI_sI, if_neg (show ¬ (a = a ∧ b = j) from fun q => hb q.2)]
  have hset := pw_set (w := gw Γ) (m := mem) (m' := sI mem a j x) (k := a) (.inr (ci, (fv (gw Γ) mem a ci).set j (.int x))) (by rw [en_obj ha hci, hfs]) (fun b hb => en_sI_ne hb)
  refine va_put C.1.1 C.1.2.1 C.1.2.2.2.2 hin ty0 hty hnm C.1.2.2.2.1 C.2.1.1 hw.1 hw.2 hS a he hc j hj (C.1.2.2.2.2 _ hl0) (fun _ h => h) hfin (hty j hj) hn hfit (by rw [fv_len, hN]; exact hj) hd (fun H1 locs1 hP hD hS1 => ?_)
  rw [hset] at hP hD
  exact k H1 locs1 ls hl ⟨hP, hD⟩ hS1
theorem g_putR {x : Nat} {a ci j idx : Nat} {Cn : String} {T : u_T} {N : Nat} (C : Cx Γ cc nL own rm) (hd : decode cc pc = .ok (.putfield idx, 3)) (hc : vwCl[ci]? = some (Cn, T, N)) (hci : ci ≤ 10) (hN : nfL.getD ci 0 = N) (hin : ∀ w ∈ u_ws Cn T N, w ∈ TT) (hj : j < N) (hl0 : Cond.fieldLink own idx (T j).1 (T j).2.1 (T j).2.2.1 ∈ TT) (ty0 : Nat → FieldType) (hty : ∀ k, k < N → parseFieldDescriptor (T k).2.2.1 = some (ty0 k)) (hnm : ∀ a, a < N → ∀ b, b < N → a ≠ b → (T a).2.1 ≠ (T b).2.1) (hfin : (T j).2.2.2 = false) (hr : rfd ci j = true) (hm : muf ci j = true) (ha : (kd a == ci) = true) (hn : narrow (ty0 j) (.ref (oa (gw Γ) x)) = .ref (oa (gw Γ) x)) (hfit : fits (ty0 j) (.ref (oa (gw Γ) x)) = true) (k : G Γ nL cs (sR mem a j x) (pc + 3) lv st) : G Γ nL cs mem pc lv (.ref (oa (gw Γ) x) :: .ref (oa (gw Γ) a) :: st) := by
  intro H locs ls hl hw hS
  have ha := beq_iff_eq.mp ha
  have hk : a < NC := kd_lt (by rw [ha]; omega)
  have he := pw_get (w := gw Γ) (m := mem) hk
  rw [en_obj ha hci] at he
  have hfs : (fv (gw Γ) mem a ci).set j (.ref (oa (gw Γ) x)) = fv (gw Γ) (sR mem a j x) a ci := by
    refine fv_set ?_ (fun b hb => ?_)
    · unfold fvj
      rw [if_pos hr, if_pos hm]
      rw [gR_sR, if_pos ⟨rfl, rfl⟩]
    · unfold fvj
      split
      · first | rfl | rw [gR_sR, if_neg (show ¬ (a = a ∧ b = j) from fun q => hb q.2)]
      · first | rfl | rw [gR_sR, if_neg (show ¬ (a = a ∧ b = j) from fun q => hb q.2)]
  have hset := pw_set (w := gw Γ) (m := mem) (m' := sR mem a j x) (k := a) (.inr (ci, (fv (gw Γ) mem a ci).set j (.ref (oa (gw Γ) x)))) (by rw [en_obj ha hci, hfs]) (fun b hb => en_sR_ne hb)
  refine va_put C.1.1 C.1.2.1 C.1.2.2.2.2 hin ty0 hty hnm C.1.2.2.2.1 C.2.1.1 hw.1 hw.2 hS a he hc j hj (C.1.2.2.2.2 _ hl0) (fun _ h => h) hfin (hty j hj) hn hfit (by rw [fv_len, hN]; exact hj) hd (fun H1 locs1 hP hD hS1 => ?_)
  rw [hset] at hP hD
  exact k H1 locs1 ls hl ⟨hP, hD⟩ hS1
theorem g_iald {a : Nat} {i : Int32} (C : Cx Γ cc nL own rm) (hd : decode cc pc = .ok (.iaload, 1)) (ha : okA 12 a i = true) (k : G Γ nL cs mem (pc + 1) lv (.int (gI mem a i.toNatClampNeg) :: st)) : G Γ nL cs mem pc lv (.int i :: .ref (oa (gw Γ) a) :: st) := by
  intro H locs ls hl hw hS
  have hk1 := okA_k ha
  have hk : a < NC := kd_lt (by rw [hk1]; omega)
  have he := pw_get (w := gw Γ) (m := mem) hk
  rw [en_int hk1 (by omega) (by omega)] at he
  exact va_iald C.1.1 C.1.2.1 C.2.1.1 hw.1 a 1 he rfl (okA_i ha) hd (k H locs ls hl hw hS)
theorem g_bald {a : Nat} {i : Int32} (C : Cx Γ cc nL own rm) (hd : decode cc pc = .ok (.baload, 1)) (ha : okA 11 a i = true) (k : G Γ nL cs mem (pc + 1) lv (.int (gI mem a i.toNatClampNeg) :: st)) : G Γ nL cs mem pc lv (.int i :: .ref (oa (gw Γ) a) :: st) := by
  intro H locs ls hl hw hS
  have hk1 := okA_k ha
  have hk : a < NC := kd_lt (by rw [hk1]; omega)
  have he := pw_get (w := gw Γ) (m := mem) hk
  rw [en_int hk1 (by omega) (by omega)] at he
  exact va_bald C.1.1 C.1.2.1 C.2.1.1 hw.1 a 0 he rfl (okA_i ha) hd (k H locs ls hl hw hS)
theorem g_zald {a : Nat} {i : Int32} (C : Cx Γ cc nL own rm) (hd : decode cc pc = .ok (.baload, 1)) (ha : okA 13 a i = true) (k : G Γ nL cs mem (pc + 1) lv (.int (gI mem a i.toNatClampNeg) :: st)) : G Γ nL cs mem pc lv (.int i :: .ref (oa (gw Γ) a) :: st) := by
  intro H locs ls hl hw hS
  have hk1 := okA_k ha
  have hk : a < NC := kd_lt (by rw [hk1]; omega)
  have he := pw_get (w := gw Γ) (m := mem) hk
  rw [en_int hk1 (by omega) (by omega)] at he
  exact va_zald C.1.1 C.1.2.1 C.2.1.1 hw.1 a 2 he rfl (okA_i ha) hd (k H locs ls hl hw hS)
theorem g_lald {a : Nat} {i : Int32} (C : Cx Γ cc nL own rm) (hd : decode cc pc = .ok (.laload, 1)) (ha : okA 15 a i = true) (k : G Γ nL cs mem (pc + 1) lv (.long (gJ mem a i.toNatClampNeg) :: st)) : G Γ nL cs mem pc lv (.int i :: .ref (oa (gw Γ) a) :: st) := by
  intro H locs ls hl hw hS
  have hk1 := okA_k ha
  have hk : a < NC := kd_lt (by rw [hk1]; omega)
  have he := pw_get (w := gw Γ) (m := mem) hk
  rw [en_long hk1] at he
  exact va_lald C.1.1 C.1.2.1 C.2.1.1 hw.1 a 4 he rfl (okA_i ha) hd (k H locs ls hl hw hS)
theorem g_dald {a : Nat} {i : Int32} (C : Cx Γ cc nL own rm) (hd : decode cc pc = .ok (.daload, 1)) (ha : okA 16 a i = true) (k : G Γ nL cs mem (pc + 1) lv (.double (gD mem a i.toNatClampNeg) :: st)) : G Γ nL cs mem pc lv (.int i :: .ref (oa (gw Γ) a) :: st) := by
  intro H locs ls hl hw hS
  have hk1 := okA_k ha
  have hk : a < NC := kd_lt (by rw [hk1]; omega)
  have he := pw_get (w := gw Γ) (m := mem) hk
  rw [en_dbl hk1] at he
  exact va_dald C.1.1 C.1.2.1 C.2.1.1 hw.1 a 5 he rfl (okA_i ha) hd (k H locs ls hl hw hS)
theorem g_aald {a : Nat} {i : Int32} (C : Cx Γ cc nL own rm) (hd : decode cc pc = .ok (.aaload, 1)) (ha : okA 14 a i = true) (k : G Γ nL cs mem (pc + 1) lv (.ref (oa (gw Γ) (rt a i.toNatClampNeg)) :: st)) : G Γ nL cs mem pc lv (.int i :: .ref (oa (gw Γ) a) :: st) := by
  intro H locs ls hl hw hS
  have hk1 := okA_k ha
  have hk : a < NC := kd_lt (by rw [hk1]; omega)
  have he := pw_get (w := gw Γ) (m := mem) hk
  rw [en_ref hk1] at he
  exact va_aldq C.1.1 C.1.2.1 C.2.1.1 hw.1 a 3 he rfl (okA_i ha) hd (k H locs ls hl hw hS)
theorem g_iast {a : Nat} {i : Int32} {x : Int32} (C : Cx Γ cc nL own rm) (hd : decode cc pc = .ok (.iastore, 1)) (ha : okA 12 a i = true) (k : G Γ nL cs (sI mem a i.toNatClampNeg x) (pc + 1) lv st) : G Γ nL cs mem pc lv (.int x :: .int i :: .ref (oa (gw Γ) a) :: st) := by
  intro H locs ls hl hw hS
  have hk1 := okA_k ha
  have hk : a < NC := kd_lt (by rw [hk1]; omega)
  have he := pw_get (w := gw Γ) (m := mem) hk
  rw [en_int hk1 (by omega) (by omega)] at he
  have hset := pw_set (w := gw Γ) (m := mem) (m' := sI mem a i.toNatClampNeg x) (k := a) (.inl (oc (gw Γ) 12, ln a, .inl (upd (gI mem a) i.toNatClampNeg x))) (by
    rw [en_int hk1 (by omega) (by omega)]
    congr 4
    funext b
    first | (simp only [gI_sI, upd, true_and]; done) | (simp [gI_sI, upd]; done) | (simp only [gI, sI, up2, upd, true_and])) (fun b hb => en_sI_ne hb)
  refine va_iast C.1.1 C.1.2.1 C.2.1.1 hw.1 hw.2 hS a 1 he rfl (okA_i ha) hd (fun H1 locs1 hP hD hS1 => ?_)
  rw [hset] at hP hD
  exact k H1 locs1 ls hl ⟨hP, hD⟩ hS1
theorem g_bast {a : Nat} {i : Int32} {x : Int32} (C : Cx Γ cc nL own rm) (hd : decode cc pc = .ok (.bastore, 1)) (ha : okA 11 a i = true) (k : G Γ nL cs (sI mem a i.toNatClampNeg (vp_nar .byte x)) (pc + 1) lv st) : G Γ nL cs mem pc lv (.int x :: .int i :: .ref (oa (gw Γ) a) :: st) := by
  intro H locs ls hl hw hS
  have hk1 := okA_k ha
  have hk : a < NC := kd_lt (by rw [hk1]; omega)
  have he := pw_get (w := gw Γ) (m := mem) hk
  rw [en_int hk1 (by omega) (by omega)] at he
  have hset := pw_set (w := gw Γ) (m := mem) (m' := sI mem a i.toNatClampNeg (vp_nar .byte x)) (k := a) (.inl (oc (gw Γ) 11, ln a, .inl (upd (gI mem a) i.toNatClampNeg (vp_nar .byte x)))) (by
    rw [en_int hk1 (by omega) (by omega)]
    congr 4
    funext b
    first | (simp only [gI_sI, upd, true_and]; done) | (simp [gI_sI, upd]; done) | (simp only [gI, sI, up2, upd, true_and])) (fun b hb => en_sI_ne hb)
  refine va_bast C.1.1 C.1.2.1 C.2.1.1 hw.1 hw.2 hS a 0 he rfl (okA_i ha) hd (fun H1 locs1 hP hD hS1 => ?_)
  rw [hset] at hP hD
  exact k H1 locs1 ls hl ⟨hP, hD⟩ hS1
theorem g_zast {a : Nat} {i : Int32} {x : Int32} (C : Cx Γ cc nL own rm) (hd : decode cc pc = .ok (.bastore, 1)) (ha : okA 13 a i = true) (k : G Γ nL cs (sI mem a i.toNatClampNeg (vp_nar .boolean x)) (pc + 1) lv st) : G Γ nL cs mem pc lv (.int x :: .int i :: .ref (oa (gw Γ) a) :: st) := by
  intro H locs ls hl hw hS
  have hk1 := okA_k ha
  have hk : a < NC := kd_lt (by rw [hk1]; omega)
  have he := pw_get (w := gw Γ) (m := mem) hk
  rw [en_int hk1 (by omega) (by omega)] at he
  have hset := pw_set (w := gw Γ) (m := mem) (m' := sI mem a i.toNatClampNeg (vp_nar .boolean x)) (k := a) (.inl (oc (gw Γ) 13, ln a, .inl (upd (gI mem a) i.toNatClampNeg (vp_nar .boolean x)))) (by
    rw [en_int hk1 (by omega) (by omega)]
    congr 4
    funext b
    first | (simp only [gI_sI, upd, true_and]; done) | (simp [gI_sI, upd]; done) | (simp only [gI, sI, up2, upd, true_and])) (fun b hb => en_sI_ne hb)
  refine va_zast C.1.1 C.1.2.1 C.2.1.1 hw.1 hw.2 hS a 2 he rfl (okA_i ha) hd (fun H1 locs1 hP hD hS1 => ?_)
  rw [hset] at hP hD
  exact k H1 locs1 ls hl ⟨hP, hD⟩ hS1
theorem g_last {a : Nat} {i : Int32} {x : Int64} (C : Cx Γ cc nL own rm) (hd : decode cc pc = .ok (.lastore, 1)) (ha : okA 15 a i = true) (k : G Γ nL cs (sJ mem a i.toNatClampNeg x) (pc + 1) lv st) : G Γ nL cs mem pc lv (.long x :: .int i :: .ref (oa (gw Γ) a) :: st) := by
  intro H locs ls hl hw hS
  have hk1 := okA_k ha
  have hk : a < NC := kd_lt (by rw [hk1]; omega)
  have he := pw_get (w := gw Γ) (m := mem) hk
  rw [en_long hk1] at he
  have hset := pw_set (w := gw Γ) (m := mem) (m' := sJ mem a i.toNatClampNeg x) (k := a) (.inl (oc (gw Γ) 15, ln a, .inr (.inl (vp_updL (gJ mem a) i.toNatClampNeg x)))) (by
    rw [en_long hk1]
    congr 5
    funext b
    simp [gJ_sJ, vp_updL]) (fun b hb => en_sJ_ne hb)
  refine va_last C.1.1 C.1.2.1 C.2.1.1 hw.1 hw.2 hS a 4 he rfl (okA_i ha) hd (fun H1 locs1 hP hD hS1 => ?_)
  rw [hset] at hP hD
  exact k H1 locs1 ls hl ⟨hP, hD⟩ hS1
theorem g_dast {a : Nat} {i : Int32} {x : UInt64} (C : Cx Γ cc nL own rm) (hd : decode cc pc = .ok (.dastore, 1)) (ha : okA 16 a i = true) (k : G Γ nL cs (sD mem a i.toNatClampNeg x) (pc + 1) lv st) : G Γ nL cs mem pc lv (.double x :: .int i :: .ref (oa (gw Γ) a) :: st) := by
  intro H locs ls hl hw hS
  have hk1 := okA_k ha
  have hk : a < NC := kd_lt (by rw [hk1]; omega)
  have he := pw_get (w := gw Γ) (m := mem) hk
  rw [en_dbl hk1] at he
  have hset := pw_set (w := gw Γ) (m := mem) (m' := sD mem a i.toNatClampNeg x) (k := a) (.inl (oc (gw Γ) 16, ln a, .inr (.inr (.inr (.inl (vf_upd (gD mem a) i.toNatClampNeg x)))))) (by
    rw [en_dbl hk1]
    congr 7
    funext b
    simp [gD_sD, vf_upd]) (fun b hb => en_sD_ne hb)
  refine va_dast C.1.1 C.1.2.1 C.2.1.1 hw.1 hw.2 hS a 5 he rfl (okA_i ha) hd (fun H1 locs1 hP hD hS1 => ?_)
  rw [hset] at hP hD
  exact k H1 locs1 ls hl ⟨hP, hD⟩ hS1
def isArr (a : Nat) : Bool := kd a == 11 || kd a == 12 || kd a == 13
theorem g_alen {a : Nat} (C : Cx Γ cc nL own rm) (hd : decode cc pc = .ok (.arraylength, 1)) (ha : (kd a == 12) = true) (k : G Γ nL cs mem (pc + 1) lv (.int (Int32.ofNat (ln a)) :: st)) : G Γ nL cs mem pc lv (.ref (oa (gw Γ) a) :: st) := by
  intro H locs ls hl hw hS
  have hk1 := beq_iff_eq.mp ha
  have hk : a < NC := kd_lt (by rw [hk1]; omega)
  have he := pw_get (w := gw Γ) (m := mem) hk
  rw [en_int hk1 (by omega) (by omega)] at he
  exact va_alen C.1.1 C.1.2.1 C.2.1.1 hw.1 a 1 he rfl rfl hd (k H locs ls hl hw hS)
theorem g_abs {x : Int32} {idx fr lo mc : Nat} (C : Cx Γ cc nL own (rmK fr lo mc)) (hd : decode cc pc = .ok (.invokestatic idx, 3)) (h1 : Cond.methodLink own idx Lib.Math.abs.name ∈ TT) (h2 : Cond.static Lib.Math.abs.name ∈ TT) (h3 : Cond.initialized "java/lang/Math" ∈ TT) (h4 : Cond.code Lib.Math.abs.name Lib.Math.abs.code 1 (some .int) ∈ TT) (hf : 1 ≤ fr) (hlo : (st.map fun v => v.category).sum + 13 ≤ lo) (hcs : cs ≤ mc) (k : G Γ nL cs mem (pc + 3) lv (.int (if 0 ≤ x then x else 0 - x) :: st)) : G Γ nL cs mem pc lv (.int x :: st) := fun H locs ls hl hw hS => va_mabs C.1.1 C.1.2.1 (C.1.2.2.1.trans hl.1.symm) C.1.2.2.2.1 (C.1.2.2.2.2 _ h1) (C.1.2.2.2.2 _ h2) (C.1.2.2.2.2 _ h3) (C.1.2.2.2.2 _ h4) (by rw [C.2.2.2.1]; exact hf) (by rw [C.2.2.2.1]; exact hlo) (by rw [C.2.2.2.1]; exact hcs) (by rw [C.2.2.2.1]; exact Nat.mul_le_mul_left 6 hcs) hd (k H locs ls hl hw hS)
theorem g_min {x y : Int32} {idx fr lo mc : Nat} (C : Cx Γ cc nL own (rmK fr lo mc)) (hd : decode cc pc = .ok (.invokestatic idx, 3)) (h1 : Cond.methodLink own idx Lib.Math.min.name ∈ TT) (h2 : Cond.static Lib.Math.min.name ∈ TT) (h3 : Cond.initialized "java/lang/Math" ∈ TT) (h4 : Cond.code Lib.Math.min.name Lib.Math.min.code 2 (some .int) ∈ TT) (hf : 1 ≤ fr) (hlo : (st.map fun v => v.category).sum + 13 ≤ lo) (hcs : cs ≤ mc) (k : G Γ nL cs mem (pc + 3) lv (.int (if y < x then y else x) :: st)) : G Γ nL cs mem pc lv (.int y :: .int x :: st) := fun H locs ls hl hw hS => va_mmin C.1.1 C.1.2.1 (C.1.2.2.1.trans hl.1.symm) C.1.2.2.2.1 (C.1.2.2.2.2 _ h1) (C.1.2.2.2.2 _ h2) (C.1.2.2.2.2 _ h3) (C.1.2.2.2.2 _ h4) (by rw [C.2.2.2.1]; exact hf) (by rw [C.2.2.2.1]; exact hlo) (by rw [C.2.2.2.1]; exact hcs) (by rw [C.2.2.2.1]; exact Nat.mul_le_mul_left 6 hcs) hd (k H locs ls hl hw hS)
theorem g_max {x y : Int32} {idx fr lo mc : Nat} (C : Cx Γ cc nL own (rmK fr lo mc)) (hd : decode cc pc = .ok (.invokestatic idx, 3)) (h1 : Cond.methodLink own idx Lib.Math.max.name ∈ TT) (h2 : Cond.static Lib.Math.max.name ∈ TT) (h3 : Cond.initialized "java/lang/Math" ∈ TT) (h4 : Cond.code Lib.Math.max.name Lib.Math.max.code 2 (some .int) ∈ TT) (hf : 1 ≤ fr) (hlo : (st.map fun v => v.category).sum + 13 ≤ lo) (hcs : cs ≤ mc) (k : G Γ nL cs mem (pc + 3) lv (.int (if x < y then y else x) :: st)) : G Γ nL cs mem pc lv (.int y :: .int x :: st) := fun H locs ls hl hw hS => va_mmax C.1.1 C.1.2.1 (C.1.2.2.1.trans hl.1.symm) C.1.2.2.2.1 (C.1.2.2.2.2 _ h1) (C.1.2.2.2.2 _ h2) (C.1.2.2.2.2 _ h3) (C.1.2.2.2.2 _ h4) (by rw [C.2.2.2.1]; exact hf) (by rw [C.2.2.2.1]; exact hlo) (by rw [C.2.2.2.1]; exact hcs) (by rw [C.2.2.2.1]; exact Nat.mul_le_mul_left 6 hcs) hd (k H locs ls hl hw hS)
def okC (a b : Nat) (sp dp n : Int32) : Bool := kd a == 12 && kd b == 12 && (!decide (sp < 0)) && (!decide (dp < 0)) && (!decide (n < 0)) && decide (sp.toNatClampNeg + n.toNatClampNeg ≤ ln a) && decide (dp.toNatClampNeg + n.toNatClampNeg ≤ ln b)
theorem g_acopy {a b : Nat} {sp dp n : Int32} {idx fr lo mc : Nat} (C : Cx Γ cc nL own (rmK fr lo mc)) (hd : decode cc pc = .ok (.invokestatic idx, 3)) (h1 : Cond.methodLink own idx arraycopyName ∈ TT) (h2 : Cond.native arraycopyName ∈ TT) (h3 : Cond.static arraycopyName ∈ TT) (h4 : Cond.initialized "java/lang/System" ∈ TT) (hf : 1 ≤ fr) (hlo : (st.map fun v => v.category).sum + (nativeFrameWords "java/lang/System" "arraycopy" 5 + 11) ≤ lo) (ho : okC a b sp dp n = true) (k : G Γ nL cs (cpI mem a sp.toNatClampNeg b dp.toNatClampNeg n.toNatClampNeg) (pc + 3) lv st) : G Γ nL cs mem pc lv (.int n :: .int dp :: .ref (oa (gw Γ) b) :: .int sp :: .ref (oa (gw Γ) a) :: st) := by
  intro H locs ls hl hw hS
  simp only [okC, Bool.and_eq_true, beq_iff_eq, Bool.not_eq_true', decide_eq_false_iff_not, decide_eq_true_eq] at ho
  obtain ⟨⟨⟨⟨⟨⟨ka, kb⟩, s1⟩, s2⟩, s3⟩, s4⟩, s5⟩ := ho
  have hka : a < NC := kd_lt (by rw [ka]; omega)
  have hkb : b < NC := kd_lt (by rw [kb]; omega)
  have hea := pw_get (w := gw Γ) (m := mem) hka
  have heb := pw_get (w := gw Γ) (m := mem) hkb
  rw [en_int ka (by omega) (by omega)] at hea
  rw [en_int kb (by omega) (by omega)] at heb
  have hset := pw_set (w := gw Γ) (m := mem) (m' := cpI mem a sp.toNatClampNeg b dp.toNatClampNeg n.toNatClampNeg) (k := b) (.inl (oc (gw Γ) 12, ln b, .inl (va_cpy (gI mem a) (gI mem b) sp.toNatClampNeg dp.toNatClampNeg n.toNatClampNeg))) (by
    rw [en_int kb (by omega) (by omega)]
    congr 4
    funext q
    rw [gI_cpI]
    simp [va_cpy]) (fun q hq => en_cpI_ne hq)
  refine va_copyi C.1.1 C.1.2.1 (C.1.2.2.1.trans hl.1.symm) C.1.2.2.2.1 (C.1.2.2.2.2 _ h1) (C.1.2.2.2.2 _ h2) (C.1.2.2.2.2 _ h3) (C.1.2.2.2.2 _ h4) C.2.1.1 hw.1 hw.2 hS a b 1 1 hea heb rfl rfl rfl s1 s2 s3 s4 s5 (fun i hi => rfl) (by rw [C.2.2.2.1]; exact hf) (by rw [C.2.2.2.1]; exact hlo) hd (fun H1 locs1 hP hD hS1 => ?_)
  rw [hset] at hP hD
  exact k H1 locs1 ls hl ⟨hP, hD⟩ hS1
end ROWS
