/-! CONSTRUCTORS: worlds as lists that grow: W0 what was there, X what this constructor holds (its own object first) -/

def GK (Γ : Gc) (nL c9 s9 : Nat) (W0 X : va_W) (pc : Nat) (lv : List (Nat × Value)) (st : List Value) : Prop :=
  ∀ (H : Heap) (locs : List Loc) (ls : Array Slot), lv_has ls nL lv → va_P (oD (gw Γ)) vwCl (W0 ++ X) H → va_D (oA (gw Γ)) (W0 ++ X) → va_S (oA (gw Γ)) (gs Γ).heap H locs → W (gp Γ) (gl Γ) (ge Γ) (gRm Γ) (gs Γ) (gm Γ) (gar Γ) (gbe Γ) (gme Γ) (gc Γ) H locs c9 s9 (gQ Γ) (F0 (gm Γ) pc ls st)
def rmC (fr lo mc ms : Nat) : Room := { frames := fr, cells := mc, slots := ms, locals := lo }
theorem ap_get {W0 X : va_W} {i : Nat} {e : Nat × va_E} (h : X[i]? = some e) : (W0 ++ X)[W0.length + i]? = some e := by
  rw [List.getElem?_append_right (by omega), Nat.add_sub_cancel_left]
  exact h
theorem ap_set {W0 X X' : va_W} {i : Nat} {e : Nat × va_E} (h : X.set i e = X') : (W0 ++ X).set (W0.length + i) e = W0 ++ X' := by
  rw [List.set_append_right _ _ (by omega), Nat.add_sub_cancel_left, h]
theorem ap_new {W0 X X' : va_W} {e : Nat × va_E} (h : X ++ [e] = X') : (W0 ++ X) ++ [e] = W0 ++ X' := by
  rw [List.append_assoc, h]
section CT
variable {Γ : Gc} {cc : ByteArray} {nL c9 s9 pc : Nat} {own : String} {fr lo mc ms : Nat} {W0 X : va_W} {lv : List (Nat × Value)} {st : List Value}
theorem k_iconst {n : Int} {v : Int32} (C : Cx Γ cc nL own (rmC fr lo mc ms)) (hd : decode cc pc = .ok (.iconst n, 1)) (hv : Int32.ofInt n = v) (k : GK Γ nL c9 s9 W0 X (pc + 1) lv (.int v :: st)) : GK Γ nL c9 s9 W0 X pc lv (st) := fun H locs ls hl hP hD hS => lv_iconst C.1.1 C.1.2.1 hd hv (k H locs ls hl hP hD hS)
theorem k_bipush {n : Int} {v : Int32} (C : Cx Γ cc nL own (rmC fr lo mc ms)) (hd : decode cc pc = .ok (.bipush n, 2)) (hv : (Int8.ofInt n).toInt32 = v) (k : GK Γ nL c9 s9 W0 X (pc + 2) lv (.int v :: st)) : GK Γ nL c9 s9 W0 X pc lv (st) := fun H locs ls hl hP hD hS => lv_bipush C.1.1 C.1.2.1 hd hv (k H locs ls hl hP hD hS)
theorem k_sipush {n : Int} {v : Int32} (C : Cx Γ cc nL own (rmC fr lo mc ms)) (hd : decode cc pc = .ok (.sipush n, 3)) (hv : (Int16.ofInt n).toInt32 = v) (k : GK Γ nL c9 s9 W0 X (pc + 3) lv (.int v :: st)) : GK Γ nL c9 s9 W0 X pc lv (st) := fun H locs ls hl hP hD hS => lv_sipush C.1.1 C.1.2.1 hd hv (k H locs ls hl hP hD hS)
theorem k_dup {va : Value} (C : Cx Γ cc nL own (rmC fr lo mc ms)) (hd : decode cc pc = .ok (.dup, 1)) (hva : va.category = 1) (k : GK Γ nL c9 s9 W0 X (pc + 1) lv (va :: va :: st)) : GK Γ nL c9 s9 W0 X pc lv (va :: st) := fun H locs ls hl hP hD hS => lv_dup C.1.1 C.1.2.1 hd hva (k H locs ls hl hP hD hS)
theorem k_iload_n {j : Fin 4} {i : Nat} {x : Int32} (C : Cx Γ cc nL own (rmC fr lo mc ms)) (hd : decode cc pc = .ok (.iload_n j, 1)) (q : Nat) (hi : (j : Nat) = i) (hq : lv[q]? = some (i, .int x)) (k : GK Γ nL c9 s9 W0 X (pc + 1) lv (.int x :: st)) : GK Γ nL c9 s9 W0 X pc lv (st) := fun H locs ls hl hP hD hS => lv_iload_n C.1.1 C.1.2.1 hd hi (lv_at hl q hq) (k H locs ls hl hP hD hS)
theorem k_istore_n {j : Fin 4} {i : Nat} {x : Int32} {lv' : List (Nat × Value)} (C : Cx Γ cc nL own (rmC fr lo mc ms)) (hd : decode cc pc = .ok (.istore_n j, 1)) (hi : (j : Nat) = i) (hn : i < nL) (hl0 : (i, Value.int x) :: lv.filter (fun q => !(q.1 == i) && !(q.1 + 1 == i && q.2.category == 2)) = lv') (k : GK Γ nL c9 s9 W0 X (pc + 1) lv' st) : GK Γ nL c9 s9 W0 X pc lv (.int x :: st) := fun H locs ls hl hP hD hS => lv_istore_n C.1.1 C.1.2.1 hd hi hl hn hl0 (fun ls' hl' => k H locs ls' hl' hP hD hS)
theorem k_istore {i : Nat} {x : Int32} {lv' : List (Nat × Value)} (C : Cx Γ cc nL own (rmC fr lo mc ms)) (hd : decode cc pc = .ok (.istore i, 2)) (hn : i < nL) (hl0 : (i, Value.int x) :: lv.filter (fun q => !(q.1 == i) && !(q.1 + 1 == i && q.2.category == 2)) = lv') (k : GK Γ nL c9 s9 W0 X (pc + 2) lv' st) : GK Γ nL c9 s9 W0 X pc lv (.int x :: st) := fun H locs ls hl hP hD hS => lv_istore C.1.1 C.1.2.1 hd hl hn hl0 (fun ls' hl' => k H locs ls' hl' hP hD hS)
theorem k_aload_n {j : Fin 4} {i : Nat} {x : Nat} (C : Cx Γ cc nL own (rmC fr lo mc ms)) (hd : decode cc pc = .ok (.aload_n j, 1)) (q : Nat) (hi : (j : Nat) = i) (hq : lv[q]? = some (i, .ref x)) (k : GK Γ nL c9 s9 W0 X (pc + 1) lv (.ref x :: st)) : GK Γ nL c9 s9 W0 X pc lv (st) := fun H locs ls hl hP hD hS => lv_aload_n C.1.1 C.1.2.1 hd hi (lv_at hl q hq) (k H locs ls hl hP hD hS)
theorem k_astore_n {j : Fin 4} {i : Nat} {x : Nat} {lv' : List (Nat × Value)} (C : Cx Γ cc nL own (rmC fr lo mc ms)) (hd : decode cc pc = .ok (.astore_n j, 1)) (hi : (j : Nat) = i) (hn : i < nL) (hl0 : (i, Value.ref x) :: lv.filter (fun q => !(q.1 == i) && !(q.1 + 1 == i && q.2.category == 2)) = lv') (k : GK Γ nL c9 s9 W0 X (pc + 1) lv' st) : GK Γ nL c9 s9 W0 X pc lv (.ref x :: st) := fun H locs ls hl hP hD hS => lv_astore_n C.1.1 C.1.2.1 hd hi hl hn hl0 (fun ls' hl' => k H locs ls' hl' hP hD hS)
theorem k_astore {i : Nat} {x : Nat} {lv' : List (Nat × Value)} (C : Cx Γ cc nL own (rmC fr lo mc ms)) (hd : decode cc pc = .ok (.astore i, 2)) (hn : i < nL) (hl0 : (i, Value.ref x) :: lv.filter (fun q => !(q.1 == i) && !(q.1 + 1 == i && q.2.category == 2)) = lv') (k : GK Γ nL c9 s9 W0 X (pc + 2) lv' st) : GK Γ nL c9 s9 W0 X pc lv (.ref x :: st) := fun H locs ls hl hP hD hS => lv_astore C.1.1 C.1.2.1 hd hl hn hl0 (fun ls' hl' => k H locs ls' hl' hP hD hS)
theorem k_iinc {i q : Nat} {n : Int} {x v : Int32} {lv' : List (Nat × Value)} (C : Cx Γ cc nL own (rmC fr lo mc ms)) (hd : decode cc pc = .ok (.iinc i n, 3)) (hq : lv[q]? = some (i, .int x)) (hv : x + Int32.ofInt n = v) (hn : i < nL) (hl0 : (i, Value.int v) :: lv.filter (fun q => !(q.1 == i) && !(q.1 + 1 == i && q.2.category == 2)) = lv') (k : GK Γ nL c9 s9 W0 X (pc + 3) lv' st) : GK Γ nL c9 s9 W0 X pc lv st := fun H locs ls hl hP hD hS => lv_iinc C.1.1 C.1.2.1 hd hl hq hv hn hl0 (fun ls' hl' => k H locs ls' hl' hP hD hS)
theorem k_goto {off : Int} {tgt : Nat} (C : Cx Γ cc nL own (rmC fr lo mc ms)) (hd : decode cc pc = .ok (.goto off, 3)) (ht : (pc : Int) + off = (tgt : Int)) (k : GK Γ nL c9 s9 W0 X tgt lv st) : GK Γ nL c9 s9 W0 X pc lv st := fun H locs ls hl hP hD hS => lv_goto C.1.1 C.1.2.1 hd ht (k H locs ls hl hP hD hS)
theorem k_icmp_ge {x y : Int32} {off : Int} {tgt : Nat} (C : Cx Γ cc nL own (rmC fr lo mc ms)) (hd : decode cc pc = .ok (.if_icmp .ge off, 3)) (ht : (pc : Int) + off = (tgt : Int)) (kt : y ≤ x → GK Γ nL c9 s9 W0 X tgt lv st) (kf : ¬ y ≤ x → GK Γ nL c9 s9 W0 X (pc + 3) lv st) : GK Γ nL c9 s9 W0 X pc lv (.int y :: .int x :: st) := fun H locs ls hl hP hD hS => lv_icmp_ge C.1.1 C.1.2.1 hd ht (fun hc => kt hc H locs ls hl hP hD hS) (fun hc => kf hc H locs ls hl hP hD hS)
theorem k_obj {a idx : Nat} (C : Cx Γ cc nL own (rmC fr lo mc ms)) (hd : decode cc pc = .ok (.invokespecial idx, 3)) (h1 : Cond.methodLink own idx Lib.objectInit ∈ TT) (h2 : Cond.instanceMethod Lib.objectInit ∈ TT) (h3 : Cond.code Lib.objectInit ⟨#[0xb1]⟩ 1 none ∈ TT) (hfr : 1 ≤ fr) (hW : (st.map fun v => v.category).sum ≤ 8) (hlo : 20 ≤ lo) (k : GK Γ nL c9 s9 W0 X (pc + 3) lv st) : GK Γ nL c9 s9 W0 X pc lv (.ref a :: st) := fun H locs ls hl hP hD hS => W.objInit C.1.1 C.1.2.1 C.1.2.2.2.1 (C.1.2.2.2.2 _ h1) (C.1.2.2.2.2 _ h2) (C.1.2.2.2.2 _ h3) rfl (hl.1.trans C.1.2.2.1.symm) rfl hd (by rw [C.2.2.2.1]; exact hfr) (by
    have h := lv_room (m := gm Γ) (pc := pc) (ls := ls) (rest := .ref a :: st) hW
    rw [C.2.2.2.1]
    show _ ≤ lo
    omega) (k H locs ls hl hP hD hS)
theorem k_new {ci idx N : Nat} {Cn : String} {T : u_T} {fs : List Value} (C : Cx Γ cc nL own (rmC fr lo mc ms)) (hA : ∀ q, (gs Γ).heap.size ≤ q → oA (gw Γ) q) (hd : decode cc pc = .ok (.new idx, 3)) (hc : vwCl[ci]? = some (Cn, T, N)) (hin : ∀ w ∈ u_ws Cn T N, w ∈ TT) (ty0 : Nat → FieldType) (hty : ∀ k, k < N → parseFieldDescriptor (T k).2.2.1 = some (ty0 k)) (h1 : Cond.classLink own idx Cn ∈ TT) (h2 : Cond.instantiable Cn N ∈ TT) (h3 : Cond.initialized Cn ∈ TT) (hfs : ∀ j, j < N → defaultValue (ty0 j) = vp_V fs j) (hmc : c9 + 1 ≤ mc) (hms : s9 + N ≤ ms) (k : ∀ q : Nat, GK Γ nL (c9 + 1) (s9 + N) W0 (X ++ [(q, .inr (ci, fs))]) (pc + 3) lv (.ref q :: st)) : GK Γ nL c9 s9 W0 X pc lv st := by
  intro H locs ls hl hP hD hS
  refine va_new C.1.1 C.1.2.1 C.1.2.2.2.2 hin ty0 hty C.1.2.2.2.1 (C.1.2.2.2.2 _ h1) (C.1.2.2.2.2 _ h2) (C.1.2.2.2.2 _ h3) C.2.1.1 hP hD hS hA hc hfs (by rw [C.2.2.2.1]; exact hmc) (by rw [C.2.2.2.1]; exact hms) hd (fun q H1 hP1 hD1 hS1 => ?_)
  rw [ap_new rfl] at hP1 hD1
  exact k q H1 locs ls hl hP1 hD1 hS1
theorem cy_eq {w : Om} {U : State} {k : Nat} {cA : ClassId} {ty : FieldType} {t1 : List (ClassId × FieldType)} {tys : List (ClassId × FieldType)} (h1 : va_K (oD w) vwCl tys U) (hk : tys[k]? = some (cA, ty)) {j : Nat} {cB : ClassId} (hj : tys[j]? = some (cB, ty)) : cA = cB := by
  have a := (h1.2 k _ hk).2
  have b := (h1.2 j _ hj).2
  unfold va_RA at a b
  cases ty with
  | object C =>
    obtain ⟨-, -, -, -, -, a⟩ := a
    obtain ⟨-, -, -, -, -, b⟩ := b
    exact Option.some.inj (a.symm.trans b)
  | _ => exact Option.some.inj (a.symm.trans b)
theorem k_newa_I {n : Int32} {N : Nat} (C : Cx Γ cc nL own (rmC fr lo mc ms)) (hA : ∀ q, (gs Γ).heap.size ≤ q → oA (gw Γ) q) (hd : decode cc pc = .ok (.newarray .int, 2)) (h1 : Cond.arrayClass .int ∈ TT) (hn : ¬ n < 0) (hN : n.toNatClampNeg = N) (hb : N * componentBytes .int ≤ 536870912) (hmc : c9 + 1 ≤ mc) (hms : s9 + N ≤ ms) (k : ∀ q : Nat, GK Γ nL (c9 + 1) (s9 + N) W0 (X ++ [(q, .inl (oc (gw Γ) 12, N, .inl (fun _ => 0)))]) (pc + 2) lv (.ref q :: st)) : GK Γ nL c9 s9 W0 X pc lv (.int n :: st) := by
  intro H locs ls hl hP hD hS
  refine va_newa (atype := .int) (ty := .int) (a0 := (N, .inl (fun _ => 0))) C.1.1 C.1.2.1 (C.1.2.2.2.2 _ h1) rfl C.2.1.1 hP hD hS hA (fun cA => rfl) hn hN hb (by rw [C.2.2.2.1]; exact hmc) (by rw [C.2.2.2.1]; exact hms) hd (fun q cA H1 hK1 hP1 hD1 hS1 => ?_)
  have e : cA = oc (gw Γ) 12 := cy_eq (w := gw Γ) (t1 := []) hK1 (k := 6) rfl (j := 1) rfl
  subst e
  rw [ap_new rfl] at hP1 hD1
  exact k q H1 locs ls hl hP1 hD1 hS1
theorem k_newa_B {n : Int32} {N : Nat} (C : Cx Γ cc nL own (rmC fr lo mc ms)) (hA : ∀ q, (gs Γ).heap.size ≤ q → oA (gw Γ) q) (hd : decode cc pc = .ok (.newarray .byte, 2)) (h1 : Cond.arrayClass .byte ∈ TT) (hn : ¬ n < 0) (hN : n.toNatClampNeg = N) (hb : N * componentBytes .byte ≤ 536870912) (hmc : c9 + 1 ≤ mc) (hms : s9 + N ≤ ms) (k : ∀ q : Nat, GK Γ nL (c9 + 1) (s9 + N) W0 (X ++ [(q, .inl (oc (gw Γ) 11, N, .inl (fun _ => 0)))]) (pc + 2) lv (.ref q :: st)) : GK Γ nL c9 s9 W0 X pc lv (.int n :: st) := by
  intro H locs ls hl hP hD hS
  refine va_newa (atype := .byte) (ty := .byte) (a0 := (N, .inl (fun _ => 0))) C.1.1 C.1.2.1 (C.1.2.2.2.2 _ h1) rfl C.2.1.1 hP hD hS hA (fun cA => rfl) hn hN hb (by rw [C.2.2.2.1]; exact hmc) (by rw [C.2.2.2.1]; exact hms) hd (fun q cA H1 hK1 hP1 hD1 hS1 => ?_)
  have e : cA = oc (gw Γ) 11 := cy_eq (w := gw Γ) (t1 := []) hK1 (k := 6) rfl (j := 0) rfl
  subst e
  rw [ap_new rfl] at hP1 hD1
  exact k q H1 locs ls hl hP1 hD1 hS1
theorem k_newa_Z {n : Int32} {N : Nat} (C : Cx Γ cc nL own (rmC fr lo mc ms)) (hA : ∀ q, (gs Γ).heap.size ≤ q → oA (gw Γ) q) (hd : decode cc pc = .ok (.newarray .boolean, 2)) (h1 : Cond.arrayClass .boolean ∈ TT) (hn : ¬ n < 0) (hN : n.toNatClampNeg = N) (hb : N * componentBytes .boolean ≤ 536870912) (hmc : c9 + 1 ≤ mc) (hms : s9 + N ≤ ms) (k : ∀ q : Nat, GK Γ nL (c9 + 1) (s9 + N) W0 (X ++ [(q, .inl (oc (gw Γ) 13, N, .inl (fun _ => 0)))]) (pc + 2) lv (.ref q :: st)) : GK Γ nL c9 s9 W0 X pc lv (.int n :: st) := by
  intro H locs ls hl hP hD hS
  refine va_newa (atype := .boolean) (ty := .boolean) (a0 := (N, .inl (fun _ => 0))) C.1.1 C.1.2.1 (C.1.2.2.2.2 _ h1) rfl C.2.1.1 hP hD hS hA (fun cA => rfl) hn hN hb (by rw [C.2.2.2.1]; exact hmc) (by rw [C.2.2.2.1]; exact hms) hd (fun q cA H1 hK1 hP1 hD1 hS1 => ?_)
  have e : cA = oc (gw Γ) 13 := cy_eq (w := gw Γ) (t1 := []) hK1 (k := 6) rfl (j := 2) rfl
  subst e
  rw [ap_new rfl] at hP1 hD1
  exact k q H1 locs ls hl hP1 hD1 hS1
theorem k_newa_J {n : Int32} {N : Nat} (C : Cx Γ cc nL own (rmC fr lo mc ms)) (hA : ∀ q, (gs Γ).heap.size ≤ q → oA (gw Γ) q) (hd : decode cc pc = .ok (.newarray .long, 2)) (h1 : Cond.arrayClass .long ∈ TT) (hn : ¬ n < 0) (hN : n.toNatClampNeg = N) (hb : N * componentBytes .long ≤ 536870912) (hmc : c9 + 1 ≤ mc) (hms : s9 + N ≤ ms) (k : ∀ q : Nat, GK Γ nL (c9 + 1) (s9 + N) W0 (X ++ [(q, .inl (oc (gw Γ) 15, N, .inr (.inl (fun _ => 0))))]) (pc + 2) lv (.ref q :: st)) : GK Γ nL c9 s9 W0 X pc lv (.int n :: st) := by
  intro H locs ls hl hP hD hS
  refine va_newa (atype := .long) (ty := .long) (a0 := (N, .inr (.inl (fun _ => 0)))) C.1.1 C.1.2.1 (C.1.2.2.2.2 _ h1) rfl C.2.1.1 hP hD hS hA (fun cA => rfl) hn hN hb (by rw [C.2.2.2.1]; exact hmc) (by rw [C.2.2.2.1]; exact hms) hd (fun q cA H1 hK1 hP1 hD1 hS1 => ?_)
  have e : cA = oc (gw Γ) 15 := cy_eq (w := gw Γ) (t1 := []) hK1 (k := 6) rfl (j := 4) rfl
  subst e
  rw [ap_new rfl] at hP1 hD1
  exact k q H1 locs ls hl hP1 hD1 hS1
theorem k_newa_D {n : Int32} {N : Nat} (C : Cx Γ cc nL own (rmC fr lo mc ms)) (hA : ∀ q, (gs Γ).heap.size ≤ q → oA (gw Γ) q) (hd : decode cc pc = .ok (.newarray .double, 2)) (h1 : Cond.arrayClass .double ∈ TT) (hn : ¬ n < 0) (hN : n.toNatClampNeg = N) (hb : N * componentBytes .double ≤ 536870912) (hmc : c9 + 1 ≤ mc) (hms : s9 + N ≤ ms) (k : ∀ q : Nat, GK Γ nL (c9 + 1) (s9 + N) W0 (X ++ [(q, .inl (oc (gw Γ) 16, N, .inr (.inr (.inr (.inl (fun _ => 0))))))]) (pc + 2) lv (.ref q :: st)) : GK Γ nL c9 s9 W0 X pc lv (.int n :: st) := by
  intro H locs ls hl hP hD hS
  refine va_newa (atype := .double) (ty := .double) (a0 := (N, .inr (.inr (.inr (.inl (fun _ => 0)))))) C.1.1 C.1.2.1 (C.1.2.2.2.2 _ h1) rfl C.2.1.1 hP hD hS hA (fun cA => rfl) hn hN hb (by rw [C.2.2.2.1]; exact hmc) (by rw [C.2.2.2.1]; exact hms) hd (fun q cA H1 hK1 hP1 hD1 hS1 => ?_)
  have e : cA = oc (gw Γ) 16 := cy_eq (w := gw Γ) (t1 := []) hK1 (k := 6) rfl (j := 5) rfl
  subst e
  rw [ap_new rfl] at hP1 hD1
  exact k q H1 locs ls hl hP1 hD1 hS1
theorem k_newq {idx : Nat} {n : Int32} {N : Nat} (C : Cx Γ cc nL own (rmC fr lo mc ms)) (hA : ∀ q, (gs Γ).heap.size ≤ q → oA (gw Γ) q) (hO : va_AO "GrantAllocation$State" (gs Γ)) (hd : decode cc pc = .ok (.anewarray idx, 3)) (h1 : Cond.classLink own idx "GrantAllocation$State" ∈ TT) (hn : ¬ n < 0) (hN : n.toNatClampNeg = N) (hb : N * 4 ≤ 536870912) (hmc : c9 + 1 ≤ mc) (hms : s9 + N ≤ ms) (k : ∀ q : Nat, GK Γ nL (c9 + 1) (s9 + N) W0 (X ++ [(q, .inl (oc (gw Γ) 14, N, .inr (.inr (.inr (.inr (fun _ => none))))))]) (pc + 3) lv (.ref q :: st)) : GK Γ nL c9 s9 W0 X pc lv (.int n :: st) := by
  intro H locs ls hl hP hD hS
  refine va_newq C.1.1 C.1.2.1 C.1.2.2.2.1 (C.1.2.2.2.2 _ h1) hO C.2.1.1 hP hD hS hA hn hN hb (by rw [C.2.2.2.1]; exact hmc) (by rw [C.2.2.2.1]; exact hms) hd (fun q cA H1 hK1 hP1 hD1 hS1 => ?_)
  have e : cA = oc (gw Γ) 14 := cy_eq (w := gw Γ) (t1 := []) hK1 (k := 6) rfl (j := 3) rfl
  subst e
  rw [ap_new rfl] at hP1 hD1
  exact k q H1 locs ls hl hP1 hD1 hS1
theorem k_put {a ci j idx N i : Nat} {Cn : String} {T : u_T} {fs : List Value} {v : Value} {X' : va_W} (C : Cx Γ cc nL own (rmC fr lo mc ms)) (hd : decode cc pc = .ok (.putfield idx, 3)) (hc : vwCl[ci]? = some (Cn, T, N)) (hin : ∀ w ∈ u_ws Cn T N, w ∈ TT) (hj : j < N) (hl0 : Cond.fieldLink own idx (T j).1 (T j).2.1 (T j).2.2.1 ∈ TT) (ty0 : Nat → FieldType) (hty : ∀ k, k < N → parseFieldDescriptor (T k).2.2.1 = some (ty0 k)) (hnm : ∀ a, a < N → ∀ b, b < N → a ≠ b → (T a).2.1 ≠ (T b).2.1) (hfin : (T j).2.2.2 = false) (he : X[i]? = some (a, .inr (ci, fs))) (hn : narrow (ty0 j) v = v) (hfit : fits (ty0 j) v = true) (hlen : j < fs.length) (hX : X.set i (a, .inr (ci, fs.set j v)) = X') (k : GK Γ nL c9 s9 W0 X' (pc + 3) lv st) : GK Γ nL c9 s9 W0 X pc lv (v :: .ref a :: st) := by
  intro H locs ls hl hP hD hS
  refine va_put C.1.1 C.1.2.1 C.1.2.2.2.2 hin ty0 hty hnm C.1.2.2.2.1 C.2.1.1 hP hD hS (W0.length + i) (ap_get he) hc j hj (C.1.2.2.2.2 _ hl0) (fun _ h => h) hfin (hty j hj) hn hfit hlen hd (fun H1 locs1 hP1 hD1 hS1 => ?_)
  rw [ap_set hX] at hP1 hD1
  exact k H1 locs1 ls hl hP1 hD1 hS1
theorem k_putF {a ci j idx N i : Nat} {Cn : String} {T : u_T} {fs : List Value} {v : Value} {X' : va_W} (C : Cx Γ cc nL own (rmC fr lo mc ms)) (hd : decode cc pc = .ok (.putfield idx, 3)) (hc : vwCl[ci]? = some (Cn, T, N)) (hin : ∀ w ∈ u_ws Cn T N, w ∈ TT) (hj : j < N) (hl0 : Cond.fieldLink own idx (T j).1 (T j).2.1 (T j).2.2.1 ∈ TT) (ty0 : Nat → FieldType) (hty : ∀ k, k < N → parseFieldDescriptor (T k).2.2.1 = some (ty0 k)) (hnm : ∀ a, a < N → ∀ b, b < N → a ≠ b → (T a).2.1 ≠ (T b).2.1) (hfin : (T j).2.2.2 = true) (hini : (gme Γ).name = "<init>") (hdecl : (T j).1 = own) (he : X[i]? = some (a, .inr (ci, fs))) (hn : narrow (ty0 j) v = v) (hfit : fits (ty0 j) v = true) (hlen : j < fs.length) (hX : X.set i (a, .inr (ci, fs.set j v)) = X') (k : GK Γ nL c9 s9 W0 X' (pc + 3) lv st) : GK Γ nL c9 s9 W0 X pc lv (v :: .ref a :: st) := by
  intro H locs ls hl hP hD hS
  refine va_putF C.1.1 C.1.2.1 C.1.2.2.2.2 hin ty0 hty hnm C.1.2.2.2.1 C.2.1.1 hP hD hS (W0.length + i) (ap_get he) hc j hj (C.1.2.2.2.2 _ hl0) (fun _ h => h) hfin hini hdecl (hty j hj) hn hfit hlen hd (fun H1 locs1 hP1 hD1 hS1 => ?_)
  rw [ap_set hX] at hP1 hD1
  exact k H1 locs1 ls hl hP1 hD1 hS1
theorem k_getR {a ci j idx N i : Nat} {Cn : String} {T : u_T} {fs : List Value} {v : Value} (C : Cx Γ cc nL own (rmC fr lo mc ms)) (hd : decode cc pc = .ok (.getfield idx, 3)) (hc : vwCl[ci]? = some (Cn, T, N)) (hin : ∀ w ∈ u_ws Cn T N, w ∈ TT) (hj : j < N) (hl0 : Cond.fieldLink own idx (T j).1 (T j).2.1 (T j).2.2.1 ∈ TT) (he : X[i]? = some (a, .inr (ci, fs))) (hv : fs[j]? = some v) (k : GK Γ nL c9 s9 W0 X (pc + 3) lv (v :: st)) : GK Γ nL c9 s9 W0 X pc lv (.ref a :: st) := fun H locs ls hl hP hD hS => va_get C.1.1 C.1.2.1 C.1.2.2.2.2 hin C.1.2.2.2.1 C.2.1.1 hP (W0.length + i) (ap_get he) hc j hj (C.1.2.2.2.2 _ hl0) (fun _ h => h) hv hd (k H locs ls hl hP hD hS)
theorem k_iast {a i N : Nat} {f : Nat → Int32} {q x : Int32} {X' : va_W} (C : Cx Γ cc nL own (rmC fr lo mc ms)) (hd : decode cc pc = .ok (.iastore, 1)) (he : X[i]? = some (a, .inl (oc (gw Γ) 12, N, .inl f))) (hin : vp_in q N) (hX : X.set i (a, .inl (oc (gw Γ) 12, N, .inl (upd f q.toNatClampNeg x))) = X') (k : GK Γ nL c9 s9 W0 X' (pc + 1) lv st) : GK Γ nL c9 s9 W0 X pc lv (.int x :: .int q :: .ref a :: st) := by
  intro H locs ls hl hP hD hS
  refine va_iast C.1.1 C.1.2.1 C.2.1.1 hP hD hS (W0.length + i) 1 (ap_get he) rfl hin hd (fun H1 locs1 hP1 hD1 hS1 => ?_)
  rw [ap_set hX] at hP1 hD1
  exact k H1 locs1 ls hl hP1 hD1 hS1
theorem k_aast {a i i2 N v : Nat} {f : Nat → Option Nat} {fs : List Value} {q : Int32} {X' : va_W} (C : Cx Γ cc nL own (rmC fr lo mc ms)) (hd : decode cc pc = .ok (.aastore, 1)) (he : X[i]? = some (a, .inl (oc (gw Γ) 14, N, .inr (.inr (.inr (.inr f)))))) (he2 : X[i2]? = some (v, .inr (7, fs))) (hin : vp_in q N) (hX : X.set i (a, .inl (oc (gw Γ) 14, N, .inr (.inr (.inr (.inr (va_up f q.toNatClampNeg (some v))))))) = X') (k : GK Γ nL c9 s9 W0 X' (pc + 1) lv st) : GK Γ nL c9 s9 W0 X pc lv (.ref v :: .int q :: .ref a :: st) := by
  intro H locs ls hl hP hD hS
  refine va_astq C.1.1 C.1.2.1 C.2.1.1 hP hD hS (W0.length + i) 3 (W0.length + i2) 7 (ap_get he) rfl (ap_get he2) rfl hin hd (fun H1 locs1 hP1 hD1 hS1 => ?_)
  rw [ap_set hX] at hP1 hD1
  exact k H1 locs1 ls hl hP1 hD1 hS1
def MFi (y : MethodName) (Cn : String) (bytes : ByteArray) (maxL : Nat) : Prop := Cond.instanceMethod y ∈ TT ∧ Cond.initialized Cn ∈ TT ∧ Cond.code y bytes maxL none ∈ TT ∧ y.cls = Cn ∧ y.name = "<init>" ∧ y.cls ≠ "java/lang/invoke/MethodHandle" ∧ y.cls ≠ "java/lang/invoke/VarHandle" ∧ (parseMethodDescriptor y.desc).map (fun d => d.parameters.length) = some 0
/-- a constructor: from its blank object to that and what it made; u: the new addresses -/
def KC (l : Launch) (y : MethodName) (bytes : ByteArray) (maxL fr lo mc ms ci : Nat) (bl : List Value) (ch : Nat → (Nat → Nat) → va_W) (w : Om) : Prop :=
  ∀ (W0 : va_W) (h : Nat), Met l y (wsK y bytes maxL none) (rmC fr lo mc ms) (va_Pc [.ref h] (fun U => va_P (oD w) vwCl (W0 ++ [(h, .inr (ci, bl))]) U.heap ∧ va_D (oA w) (W0 ++ [(h, .inr (ci, bl))]) ∧ Sx w U U.heap ∧ va_AO "GrantAllocation$State" U)) (va_Qv (fun (_ : Nat → Nat) => True) (fun u t => va_P (oD w) vwCl (W0 ++ ch h u) t.heap ∧ va_D (oA w) (W0 ++ ch h u)) (oA w)) mc ms (oA w)
theorem KC_of {l : Launch} {y : MethodName} {bytes : ByteArray} {maxL fr lo mc ms ci : Nat} {bl : List Value} {ch : Nat → (Nat → Nat) → va_W} {w : Om} (hst : l.stackTraces = false) (hy : plainName y.cls = true) (own : String) (ho : y.cls = own) (hnm : y.name = "<init>") (hlen : 1 ≤ maxL)
    (body : ∀ (W0 : va_W) (h : Nat) (Γ : Gc), gw Γ = w → Cx Γ bytes maxL own (rmC fr lo mc ms) → (∀ q, (gs Γ).heap.size ≤ q → oA (gw Γ) q) → va_AO "GrantAllocation$State" (gs Γ) → (gme Γ).name = "<init>" → (∀ (u : Nat → Nat) (c9 s9 pc : Nat) (lv : List (Nat × Value)), c9 ≤ mc → s9 ≤ ms → decode bytes pc = .ok (.return_, 1) → GK Γ maxL c9 s9 W0 (ch h u) pc lv []) → GK Γ maxL 0 0 W0 [(h, .inr (ci, bl))] 0 [(0, .ref h)] []) : KC l y bytes maxL fr lo mc ms ci bl ch w := by
  intro W0 h
  refine Met.ofW (cc := bytes) (maxL := maxL) (ret := none) hy rfl ?_
  intro p e s m0 args below meth c s₁ B hml hv
  obtain ⟨rfl, hP, hD, hx, hO⟩ := hv
  have hts := atoms_spec (ws := wsK y bytes maxL none) B.pre
  have hown := findClass_of_methodNamed B.named
  rw [ho] at hown
  have hin : meth.name = y.name := (name_of_methodNamed B.named B.method).1
  rw [hnm] at hin
  have hG := body W0 h (p, l, e, (headSpec (wsK y bytes maxL none) (rmC fr lo mc ms)).room, s, m0, [Value.ref h].toArray, below, meth, c, w, MQ below (va_Qv (fun (_ : Nat → Nat) => True) (fun u t => va_P (oD w) vwCl (W0 ++ ch h u) t.heap ∧ va_D (oA w) (W0 ++ ch h u)) (oA w)) [Value.ref h].toArray s mc ms (oA w)) rfl ⟨⟨B.exec, B.bytes, hml, hown, fun w hw => hts w (List.mem_cons_of_mem _ hw)⟩, hx, B.notSynchronized, rfl, hst⟩
    (fun q hq => Nat.le_trans hx.2.2.2.2.2.2.2.1 hq) hO hin
    (fun u c9 s9 pc lv h1 h2 hd H locs ls hl hP hD hS => W.widen h1 h2 (W.vret B.exec B.bytes B.returns (fun t ht hW => ⟨⟨u, rfl, trivial, by show va_P (oD w) vwCl (W0 ++ ch h u) t.heap ∧ _; rw [ht]; exact ⟨hP, hD⟩⟩, hS.F ht⟩) (fun q hq => hS.2.2 q hq) hd B.notSynchronized))
  rw [lg_entry_eq]
  exact hG s.heap [] _ (lv_entry [Value.ref h] hlen) hP hD va_S.rf
theorem gi_I {y : MethodName} {Cn : String} {bytes : ByteArray} {maxL : Nat} (F : MFi y Cn bytes maxL) : GoodIn TT (wsK y bytes maxL none) := by
  intro w hw
  have h : w ∈ TT := by
    simp only [wsK, List.mem_cons] at hw
    rcases hw with rfl | hw
    · exact F.2.2.1
    · exact hw
  exact ⟨h, tt_good h⟩
theorem k_blind {w : Om} {ws : va_W} (av : List Value) : FrameBlind (va_Pc av (fun U => va_P (oD w) vwCl ws U.heap ∧ va_D (oA w) ws ∧ Sx w U U.heap ∧ va_AO "GrantAllocation$State" U)) := fun _ U _ _ q => ⟨q.1, q.2.1, q.2.2.1, q.2.2.2.1.call, q.2.2.2.2.moved (Vm.Alike.refl U.vm)⟩
theorem k_initN {y : MethodName} {Cn : String} {bytes : ByteArray} {maxL fr' lo' mc' ms' ci idx h : Nat} {bl : List Value} {ch : Nat → (Nat → Nat) → va_W} {Xp : va_W} (C : Cx Γ cc nL own (rmC fr lo mc ms)) (hO : va_AO "GrantAllocation$State" (gs Γ)) (hd : decode cc pc = .ok (.invokespecial idx, 3)) (F : MFi y Cn bytes maxL) {host : String} (h1 : (own, idx, y, host) ∈ nestW) (hR : fr' + 1 ≤ fr ∧ 8 + (maxL + 11) + lo' ≤ lo) (hW : (st.map fun v => v.category).sum ≤ 8) (hcs : c9 + mc' ≤ mc ∧ s9 + ms' ≤ ms) (hM : KC (gl Γ) y bytes maxL fr' lo' mc' ms' ci bl ch (gw Γ)) (k : ∀ u : Nat → Nat, GK Γ nL (c9 + mc') (s9 + ms') W0 (Xp ++ ch h u) (pc + 3) lv st) : GK Γ nL c9 s9 W0 (Xp ++ [(h, .inr (ci, bl))]) pc lv (.ref h :: st) := by
  intro H locs ls hl hP hD hS
  rw [← List.append_assoc] at hP hD
  refine va_callv (va_runIN (As := []) (rest := st) C.1 (hM (W0 ++ Xp) h) ⟨va_cnB 0 C.1.2.2.2.2 (gi_I F) rfl rfl rfl (C.2.1.2.1 _ h1) (by rw [F.2.2.2.1]; exact C.1.2.2.2.2 _ F.2.1) F.2.2.2.2.2 ⟨by rw [C.2.2.2.1]; exact hR.1, by rw [C.2.2.2.1]; exact hR.2⟩, F.2.2.2.2.1, C.1.2.2.2.2 _ F.1⟩ ⟨k_blind _, fun U hU hWm => ⟨rfl, by rw [hU]; exact hP, hD, C.2.1.move hS hU hWm, hO.moved hWm.alike⟩⟩ rfl rfl hl.1 rfl (lv_room hW) hd ⟨by rw [C.2.2.2.1]; exact hcs.1, by rw [C.2.2.2.1]; exact hcs.2⟩) hS (fun q _ h => h) (fun q h => h) (fun u t H1 locs1 ht hvm hpost hB hsz hkeep hS1 => ?_)
  rw [ht] at hB
  obtain ⟨hP1, hD1⟩ := hB
  rw [List.append_assoc] at hP1 hD1
  exact k u H1 locs1 ls hl hP1 hD1 hS1
theorem k_init {y : MethodName} {Cn : String} {bytes : ByteArray} {maxL fr' lo' mc' ms' ci idx h : Nat} {bl : List Value} {ch : Nat → (Nat → Nat) → va_W} {Xp : va_W} (C : Cx Γ cc nL own (rmC fr lo mc ms)) (hO : va_AO "GrantAllocation$State" (gs Γ)) (hd : decode cc pc = .ok (.invokespecial idx, 3)) (F : MFi y Cn bytes maxL) (h1 : Cond.methodLink own idx y ∈ TT) (hR : fr' + 1 ≤ fr ∧ 8 + (maxL + 11) + lo' ≤ lo) (hW : (st.map fun v => v.category).sum ≤ 8) (hcs : c9 + mc' ≤ mc ∧ s9 + ms' ≤ ms) (hM : KC (gl Γ) y bytes maxL fr' lo' mc' ms' ci bl ch (gw Γ)) (k : ∀ u : Nat → Nat, GK Γ nL (c9 + mc') (s9 + ms') W0 (Xp ++ ch h u) (pc + 3) lv st) : GK Γ nL c9 s9 W0 (Xp ++ [(h, .inr (ci, bl))]) pc lv (.ref h :: st) := by
  intro H locs ls hl hP hD hS
  rw [← List.append_assoc] at hP hD
  refine va_callv (va_runI (As := []) (rest := st) C.1 (hM (W0 ++ Xp) h) (cwI 0 C.1.2.2.2.2 (gi_I F) rfl rfl rfl (by rw [F.2.2.2.1]; exact C.1.2.2.2.2 _ F.2.1) (C.1.2.2.2.2 _ h1) (C.1.2.2.2.2 _ F.1) F.2.2.2.2.1 F.2.2.2.2.2 ⟨by rw [C.2.2.2.1]; exact hR.1, by rw [C.2.2.2.1]; exact hR.2⟩) ⟨k_blind _, fun U hU hWm => ⟨rfl, by rw [hU]; exact hP, hD, C.2.1.move hS hU hWm, hO.moved hWm.alike⟩⟩ rfl rfl hl.1 rfl (lv_room hW) hd ⟨by rw [C.2.2.2.1]; exact hcs.1, by rw [C.2.2.2.1]; exact hcs.2⟩) hS (fun q _ h => h) (fun q h => h) (fun u t H1 locs1 ht hvm hpost hB hsz hkeep hS1 => ?_)
  rw [ht] at hB
  obtain ⟨hP1, hD1⟩ := hB
  rw [List.append_assoc] at hP1 hD1
  exact k u H1 locs1 ls hl hP1 hD1 hS1
end CT
