/-! CALLS, RETURNS, CONTRACTS -/
def wsK (y : MethodName) (bytes : ByteArray) (maxL : Nat) (ret : Option FieldType) : List Cond := Cond.code y bytes maxL ret :: TT
def KI (l : Launch) (y : MethodName) (bytes : ByteArray) (maxL : Nat) (ret : Option FieldType) (fr lo : Nat) (w : Om) (av : List Value) (m : Mem) (x : Int32) (m' : Mem) : Prop :=
  Met l y (wsK y bytes maxL ret) (rmK fr lo 0) (va_Pc av (Wd w m)) (va_Qi (fun r (_ : Unit) => r = x) (fun _ t => Wp w m' t.heap) (oA w)) 0 0 (oA w)
def KV (l : Launch) (y : MethodName) (bytes : ByteArray) (maxL : Nat) (ret : Option FieldType) (fr lo : Nat) (w : Om) (av : List Value) (m : Mem) (m' : Mem) : Prop :=
  Met l y (wsK y bytes maxL ret) (rmK fr lo 0) (va_Pc av (Wd w m)) (va_Qv (fun (_ : Unit) => True) (fun _ t => Wp w m' t.heap) (oA w)) 0 0 (oA w)
def KL (l : Launch) (y : MethodName) (bytes : ByteArray) (maxL : Nat) (ret : Option FieldType) (fr lo : Nat) (w : Om) (av : List Value) (m : Mem) (x : Int64) (m' : Mem) : Prop :=
  Met l y (wsK y bytes maxL ret) (rmK fr lo 0) (va_Pc av (Wd w m)) (va_Ql (fun r (_ : Unit) => r = x) (fun _ t => Wp w m' t.heap) (oA w)) 0 0 (oA w)
def KD (l : Launch) (y : MethodName) (bytes : ByteArray) (maxL : Nat) (ret : Option FieldType) (fr lo : Nat) (w : Om) (av : List Value) (m : Mem) (x : UInt64) (m' : Mem) : Prop :=
  Met l y (wsK y bytes maxL ret) (rmK fr lo 0) (va_Pc av (Wd w m)) (va_Qd (fun r (_ : Unit) => r = x) (fun _ t => Wp w m' t.heap) (oA w)) 0 0 (oA w)
/-- the exceptions by number -/
def exN : Nat → String
  | 0 => "java/lang/IllegalStateException"
  | 1 => "java/lang/IllegalArgumentException"
  | 2 => "java/lang/IndexOutOfBoundsException"
  | _ => "java/util/NoSuchElementException"
def xC (w : Om) (oe : Option Nat) (m' : Mem) : String → State → State → Prop := vx_X (fun e : Nat => oe = some e) (fun E e t => E = exN e ∧ Wp w m' t.heap) (oA w)
def sE {α : Type} (r : α ⊕ Nat) : Option Nat := match r with
  | .inl _ => none
  | .inr e => some e
def XI (l : Launch) (y : MethodName) (bytes : ByteArray) (maxL : Nat) (ret : Option FieldType) (fr lo mc : Nat) (w : Om) (av : List Value) (m : Mem) (o : (Int32 ⊕ Nat) × Mem) : Prop :=
  vx_Met l y (wsK y bytes maxL ret) (rmK fr lo mc) (va_Pc av (Wd w m)) (va_Qi (fun r (_ : Unit) => o.1 = .inl r) (fun _ t => Wp w o.2 t.heap) (oA w)) (xC w (sE o.1) o.2) mc (6 * mc) (oA w)
def XV (l : Launch) (y : MethodName) (bytes : ByteArray) (maxL : Nat) (ret : Option FieldType) (fr lo mc : Nat) (w : Om) (av : List Value) (m : Mem) (o : (Unit ⊕ Nat) × Mem) : Prop :=
  vx_Met l y (wsK y bytes maxL ret) (rmK fr lo mc) (va_Pc av (Wd w m)) (va_Qv (fun (_ : Unit) => o.1 = .inl ()) (fun _ t => Wp w o.2 t.heap) (oA w)) (xC w (sE o.1) o.2) mc (6 * mc) (oA w)
def XD (l : Launch) (y : MethodName) (bytes : ByteArray) (maxL : Nat) (ret : Option FieldType) (fr lo mc : Nat) (w : Om) (av : List Value) (m : Mem) (o : (UInt64 ⊕ Nat) × Mem) : Prop :=
  vx_Met l y (wsK y bytes maxL ret) (rmK fr lo mc) (va_Pc av (Wd w m)) (va_Qd (fun r (_ : Unit) => o.1 = .inl r) (fun _ t => Wp w o.2 t.heap) (oA w)) (xC w (sE o.1) o.2) mc (6 * mc) (oA w)
/-- what the tables say of a method that is called on an object -/
def MFv (y : MethodName) (Cn : String) (bytes : ByteArray) (maxL : Nat) (ret : Option FieldType) (n : Nat) : Prop :=
  Cond.instanceMethod y ∈ TT ∧ Cond.selects Cn y y ∈ TT ∧ Cond.initialized Cn ∈ TT ∧ Cond.code y bytes maxL ret ∈ TT ∧ y.cls = Cn ∧ y.cls ≠ "java/lang/invoke/MethodHandle" ∧ y.cls ≠ "java/lang/invoke/VarHandle" ∧ (parseMethodDescriptor y.desc).map (fun d => d.parameters.length) = some n
def MFs (y : MethodName) (Cn : String) (bytes : ByteArray) (maxL : Nat) (ret : Option FieldType) (n : Nat) : Prop :=
  Cond.static y ∈ TT ∧ Cond.initialized Cn ∈ TT ∧ Cond.code y bytes maxL ret ∈ TT ∧ y.cls = Cn ∧ y.cls ≠ "java/lang/invoke/MethodHandle" ∧ y.cls ≠ "java/lang/invoke/VarHandle" ∧ (parseMethodDescriptor y.desc).map (fun d => d.parameters.length) = some n
theorem gi_V {own Cn : String} {idx : Nat} {y : MethodName} {bytes : ByteArray} {maxL n : Nat} {ret : Option FieldType} (F : MFv y Cn bytes maxL ret n) (h1 : Cond.methodLink own idx y ∈ TT) : GoodIn TT (wsV own idx Cn y (wsK y bytes maxL ret)) := by
  intro w hw
  have h : w ∈ TT := by
    simp only [wsV, wsK, List.mem_append, List.mem_cons, List.not_mem_nil, or_false] at hw
    rcases hw with (rfl | rfl | rfl | rfl) | rfl | hw
    · exact h1
    · exact F.1
    · exact F.2.1
    · exact F.2.2.1
    · exact F.2.2.2.1
    · exact hw
  exact ⟨h, tt_good h⟩
theorem gi_S {own Cn : String} {idx : Nat} {y : MethodName} {bytes : ByteArray} {maxL n : Nat} {ret : Option FieldType} (F : MFs y Cn bytes maxL ret n) (h1 : Cond.methodLink own idx y ∈ TT) : GoodIn TT (va_wsS own idx y (wsK y bytes maxL ret)) := by
  intro w hw
  have h : w ∈ TT := by
    simp only [va_wsS, wsK, List.mem_append, List.mem_cons, List.not_mem_nil, or_false] at hw
    rcases hw with (rfl | rfl | rfl) | rfl | hw
    · exact h1
    · exact F.1
    · rw [F.2.2.2.1]; exact F.2.1
    · exact F.2.2.1
    · exact hw
  exact ⟨h, tt_good h⟩
theorem gi_N {Cn : String} {y : MethodName} {bytes : ByteArray} {maxL n : Nat} {ret : Option FieldType} (F : MFs y Cn bytes maxL ret n) : GoodIn TT (wsK y bytes maxL ret) := by
  intro w hw
  have h : w ∈ TT := by
    simp only [wsK, List.mem_cons] at hw
    rcases hw with rfl | hw
    · exact F.2.2.1
    · exact hw
  exact ⟨h, tt_good h⟩
section CALLS
variable {Γ : Gc} {cc : ByteArray} {nL cs pc : Nat} {own : String} {mem : Mem} {lv : List (Nat × Value)} {st : List Value} {y : MethodName} {Cn : String} {bytes : ByteArray} {maxL n fr' lo' fr lo mc idx ci a N : Nat} {ret : Option FieldType} {T : u_T} {As stk : List Value} {m' : Mem}
theorem g_vI {x : Int32} (C : Cx Γ cc nL own (rmK fr lo mc)) (hd : decode cc pc = .ok (.invokevirtual idx, 3)) (F : MFv y Cn bytes maxL ret n) (h1 : Cond.methodLink own idx y ∈ TT) (hc : vwCl[ci]? = some (Cn, T, N)) (hci : ci ≤ 10) (hR : fr' + 1 ≤ fr ∧ 8 + (maxL + 11) + lo' ≤ lo) (hn : As.length = n) (hst : stk = As.reverse ++ .ref (oa (gw Γ) a) :: st) (hW : (st.map fun v => v.category).sum ≤ 8) (hcs : cs ≤ mc) (ha : (kd a == ci) = true) (hM : KI (gl Γ) y bytes maxL ret fr' lo' (gw Γ) (.ref (oa (gw Γ) a) :: As) mem x m') (k : G Γ nL cs m' (pc + 3) lv (.int x :: st)) : G Γ nL cs mem pc lv stk := by
  intro H locs ls hl hw hS
  have ha := beq_iff_eq.mp ha
  have hk : a < NC := kd_lt (by rw [ha]; omega)
  have he := pw_get (w := gw Γ) (m := mem) hk
  rw [en_obj ha hci] at he
  have hrecv := va_recv C.2.1.1 hw.1 hc he
  subst hst
  refine va_calli (va_runV (As := As) (rest := st) C.1 hM (cwV n C.1.2.2.2.2 (gi_V F h1) rfl rfl rfl F.2.2.2.2 ⟨by rw [C.2.2.2.1]; exact hR.1, by rw [C.2.2.2.1]; exact hR.2⟩) ⟨Wd.blind _, hrecv, fun U hU hWm => ⟨rfl, by rw [hU]; exact hw, C.2.1.move hS hU hWm⟩⟩ rfl hn hl.1 rfl (lv_room hW) hd ⟨by rw [C.2.2.2.1]; exact hcs, by rw [C.2.2.2.1]; exact Nat.mul_le_mul_left 6 hcs⟩) hS (fun q _ h => h) (fun q h => h) (fun r u t H1 locs1 ht hvm hpost hB hsz hkeep hS1 => ?_)
  subst hpost
  rw [ht] at hB
  exact k H1 locs1 ls hl hB hS1
theorem g_sI {x : Int32} (C : Cx Γ cc nL own (rmK fr lo mc)) (hd : decode cc pc = .ok (.invokestatic idx, 3)) (F : MFs y Cn bytes maxL ret n) (h1 : Cond.methodLink own idx y ∈ TT) (hR : fr' + 1 ≤ fr ∧ 8 + (maxL + 11) + lo' ≤ lo) (hn : As.length = n) (hst : stk = As.reverse ++ st) (hW : (st.map fun v => v.category).sum ≤ 8) (hcs : cs ≤ mc) (hM : KI (gl Γ) y bytes maxL ret fr' lo' (gw Γ) As mem x m') (k : G Γ nL cs m' (pc + 3) lv (.int x :: st)) : G Γ nL cs mem pc lv stk := by
  intro H locs ls hl hw hS
  subst hst
  refine va_calli (va_runS (As := As) (rest := st) C.1 hM (va_cwS n C.1.2.2.2.2 (gi_S F h1) rfl rfl rfl F.2.2.2.2 ⟨by rw [C.2.2.2.1]; exact hR.1, by rw [C.2.2.2.1]; exact hR.2⟩) ⟨Wd.blind _, fun U hU hWm => ⟨rfl, by rw [hU]; exact hw, C.2.1.move hS hU hWm⟩⟩ rfl hn hl.1 rfl (lv_room hW) hd ⟨by rw [C.2.2.2.1]; exact hcs, by rw [C.2.2.2.1]; exact Nat.mul_le_mul_left 6 hcs⟩) hS (fun q _ h => h) (fun q h => h) (fun r u t H1 locs1 ht hvm hpost hB hsz hkeep hS1 => ?_)
  subst hpost
  rw [ht] at hB
  exact k H1 locs1 ls hl hB hS1
theorem g_nI {x : Int32} (C : Cx Γ cc nL own (rmK fr lo mc)) (hd : decode cc pc = .ok (.invokestatic idx, 3)) (F : MFs y Cn bytes maxL ret n) {host : String} (h1 : (own, idx, y, host) ∈ nestW) (hR : fr' + 1 ≤ fr ∧ 8 + (maxL + 11) + lo' ≤ lo) (hn : As.length = n) (hst : stk = As.reverse ++ st) (hW : (st.map fun v => v.category).sum ≤ 8) (hcs : cs ≤ mc) (hM : KI (gl Γ) y bytes maxL ret fr' lo' (gw Γ) As mem x m') (k : G Γ nL cs m' (pc + 3) lv (.int x :: st)) : G Γ nL cs mem pc lv stk := by
  intro H locs ls hl hw hS
  subst hst
  refine va_calli (va_runSN (As := As) (rest := st) C.1 hM ⟨va_cnB n C.1.2.2.2.2 (gi_N F) rfl rfl rfl (C.2.1.2.1 _ h1) (by rw [F.2.2.2.1]; exact C.1.2.2.2.2 _ F.2.1) F.2.2.2.2 ⟨by rw [C.2.2.2.1]; exact hR.1, by rw [C.2.2.2.1]; exact hR.2⟩, C.1.2.2.2.2 _ F.1, trivial⟩ ⟨Wd.blind _, fun U hU hWm => ⟨rfl, by rw [hU]; exact hw, C.2.1.move hS hU hWm⟩⟩ rfl hn hl.1 rfl (lv_room hW) hd ⟨by rw [C.2.2.2.1]; exact hcs, by rw [C.2.2.2.1]; exact Nat.mul_le_mul_left 6 hcs⟩) hS (fun q _ h => h) (fun q h => h) (fun r u t H1 locs1 ht hvm hpost hB hsz hkeep hS1 => ?_)
  subst hpost
  rw [ht] at hB
  exact k H1 locs1 ls hl hB hS1
theorem g_vV (C : Cx Γ cc nL own (rmK fr lo mc)) (hd : decode cc pc = .ok (.invokevirtual idx, 3)) (F : MFv y Cn bytes maxL ret n) (h1 : Cond.methodLink own idx y ∈ TT) (hc : vwCl[ci]? = some (Cn, T, N)) (hci : ci ≤ 10) (hR : fr' + 1 ≤ fr ∧ 8 + (maxL + 11) + lo' ≤ lo) (hn : As.length = n) (hst : stk = As.reverse ++ .ref (oa (gw Γ) a) :: st) (hW : (st.map fun v => v.category).sum ≤ 8) (hcs : cs ≤ mc) (ha : (kd a == ci) = true) (hM : KV (gl Γ) y bytes maxL ret fr' lo' (gw Γ) (.ref (oa (gw Γ) a) :: As) mem m') (k : G Γ nL cs m' (pc + 3) lv (st)) : G Γ nL cs mem pc lv stk := by
  intro H locs ls hl hw hS
  have ha := beq_iff_eq.mp ha
  have hk : a < NC := kd_lt (by rw [ha]; omega)
  have he := pw_get (w := gw Γ) (m := mem) hk
  rw [en_obj ha hci] at he
  have hrecv := va_recv C.2.1.1 hw.1 hc he
  subst hst
  refine va_callv (va_runV (As := As) (rest := st) C.1 hM (cwV n C.1.2.2.2.2 (gi_V F h1) rfl rfl rfl F.2.2.2.2 ⟨by rw [C.2.2.2.1]; exact hR.1, by rw [C.2.2.2.1]; exact hR.2⟩) ⟨Wd.blind _, hrecv, fun U hU hWm => ⟨rfl, by rw [hU]; exact hw, C.2.1.move hS hU hWm⟩⟩ rfl hn hl.1 rfl (lv_room hW) hd ⟨by rw [C.2.2.2.1]; exact hcs, by rw [C.2.2.2.1]; exact Nat.mul_le_mul_left 6 hcs⟩) hS (fun q _ h => h) (fun q h => h) (fun u t H1 locs1 ht hvm hpost hB hsz hkeep hS1 => ?_)
  rw [ht] at hB
  exact k H1 locs1 ls hl hB hS1
theorem g_sV (C : Cx Γ cc nL own (rmK fr lo mc)) (hd : decode cc pc = .ok (.invokestatic idx, 3)) (F : MFs y Cn bytes maxL ret n) (h1 : Cond.methodLink own idx y ∈ TT) (hR : fr' + 1 ≤ fr ∧ 8 + (maxL + 11) + lo' ≤ lo) (hn : As.length = n) (hst : stk = As.reverse ++ st) (hW : (st.map fun v => v.category).sum ≤ 8) (hcs : cs ≤ mc) (hM : KV (gl Γ) y bytes maxL ret fr' lo' (gw Γ) As mem m') (k : G Γ nL cs m' (pc + 3) lv (st)) : G Γ nL cs mem pc lv stk := by
  intro H locs ls hl hw hS
  subst hst
  refine va_callv (va_runS (As := As) (rest := st) C.1 hM (va_cwS n C.1.2.2.2.2 (gi_S F h1) rfl rfl rfl F.2.2.2.2 ⟨by rw [C.2.2.2.1]; exact hR.1, by rw [C.2.2.2.1]; exact hR.2⟩) ⟨Wd.blind _, fun U hU hWm => ⟨rfl, by rw [hU]; exact hw, C.2.1.move hS hU hWm⟩⟩ rfl hn hl.1 rfl (lv_room hW) hd ⟨by rw [C.2.2.2.1]; exact hcs, by rw [C.2.2.2.1]; exact Nat.mul_le_mul_left 6 hcs⟩) hS (fun q _ h => h) (fun q h => h) (fun u t H1 locs1 ht hvm hpost hB hsz hkeep hS1 => ?_)
  rw [ht] at hB
  exact k H1 locs1 ls hl hB hS1
theorem g_nV (C : Cx Γ cc nL own (rmK fr lo mc)) (hd : decode cc pc = .ok (.invokestatic idx, 3)) (F : MFs y Cn bytes maxL ret n) {host : String} (h1 : (own, idx, y, host) ∈ nestW) (hR : fr' + 1 ≤ fr ∧ 8 + (maxL + 11) + lo' ≤ lo) (hn : As.length = n) (hst : stk = As.reverse ++ st) (hW : (st.map fun v => v.category).sum ≤ 8) (hcs : cs ≤ mc) (hM : KV (gl Γ) y bytes maxL ret fr' lo' (gw Γ) As mem m') (k : G Γ nL cs m' (pc + 3) lv (st)) : G Γ nL cs mem pc lv stk := by
  intro H locs ls hl hw hS
  subst hst
  refine va_callv (va_runSN (As := As) (rest := st) C.1 hM ⟨va_cnB n C.1.2.2.2.2 (gi_N F) rfl rfl rfl (C.2.1.2.1 _ h1) (by rw [F.2.2.2.1]; exact C.1.2.2.2.2 _ F.2.1) F.2.2.2.2 ⟨by rw [C.2.2.2.1]; exact hR.1, by rw [C.2.2.2.1]; exact hR.2⟩, C.1.2.2.2.2 _ F.1, trivial⟩ ⟨Wd.blind _, fun U hU hWm => ⟨rfl, by rw [hU]; exact hw, C.2.1.move hS hU hWm⟩⟩ rfl hn hl.1 rfl (lv_room hW) hd ⟨by rw [C.2.2.2.1]; exact hcs, by rw [C.2.2.2.1]; exact Nat.mul_le_mul_left 6 hcs⟩) hS (fun q _ h => h) (fun q h => h) (fun u t H1 locs1 ht hvm hpost hB hsz hkeep hS1 => ?_)
  rw [ht] at hB
  exact k H1 locs1 ls hl hB hS1
theorem g_vL {x : Int64} (C : Cx Γ cc nL own (rmK fr lo mc)) (hd : decode cc pc = .ok (.invokevirtual idx, 3)) (F : MFv y Cn bytes maxL ret n) (h1 : Cond.methodLink own idx y ∈ TT) (hc : vwCl[ci]? = some (Cn, T, N)) (hci : ci ≤ 10) (hR : fr' + 1 ≤ fr ∧ 8 + (maxL + 11) + lo' ≤ lo) (hn : As.length = n) (hst : stk = As.reverse ++ .ref (oa (gw Γ) a) :: st) (hW : (st.map fun v => v.category).sum ≤ 8) (hcs : cs ≤ mc) (ha : (kd a == ci) = true) (hM : KL (gl Γ) y bytes maxL ret fr' lo' (gw Γ) (.ref (oa (gw Γ) a) :: As) mem x m') (k : G Γ nL cs m' (pc + 3) lv (.long x :: st)) : G Γ nL cs mem pc lv stk := by
  intro H locs ls hl hw hS
  have ha := beq_iff_eq.mp ha
  have hk : a < NC := kd_lt (by rw [ha]; omega)
  have he := pw_get (w := gw Γ) (m := mem) hk
  rw [en_obj ha hci] at he
  have hrecv := va_recv C.2.1.1 hw.1 hc he
  subst hst
  refine va_calll (va_runV (As := As) (rest := st) C.1 hM (cwV n C.1.2.2.2.2 (gi_V F h1) rfl rfl rfl F.2.2.2.2 ⟨by rw [C.2.2.2.1]; exact hR.1, by rw [C.2.2.2.1]; exact hR.2⟩) ⟨Wd.blind _, hrecv, fun U hU hWm => ⟨rfl, by rw [hU]; exact hw, C.2.1.move hS hU hWm⟩⟩ rfl hn hl.1 rfl (lv_room hW) hd ⟨by rw [C.2.2.2.1]; exact hcs, by rw [C.2.2.2.1]; exact Nat.mul_le_mul_left 6 hcs⟩) hS (fun q _ h => h) (fun q h => h) (fun r u t H1 locs1 ht hvm hpost hB hsz hkeep hS1 => ?_)
  subst hpost
  rw [ht] at hB
  exact k H1 locs1 ls hl hB hS1
theorem g_sL {x : Int64} (C : Cx Γ cc nL own (rmK fr lo mc)) (hd : decode cc pc = .ok (.invokestatic idx, 3)) (F : MFs y Cn bytes maxL ret n) (h1 : Cond.methodLink own idx y ∈ TT) (hR : fr' + 1 ≤ fr ∧ 8 + (maxL + 11) + lo' ≤ lo) (hn : As.length = n) (hst : stk = As.reverse ++ st) (hW : (st.map fun v => v.category).sum ≤ 8) (hcs : cs ≤ mc) (hM : KL (gl Γ) y bytes maxL ret fr' lo' (gw Γ) As mem x m') (k : G Γ nL cs m' (pc + 3) lv (.long x :: st)) : G Γ nL cs mem pc lv stk := by
  intro H locs ls hl hw hS
  subst hst
  refine va_calll (va_runS (As := As) (rest := st) C.1 hM (va_cwS n C.1.2.2.2.2 (gi_S F h1) rfl rfl rfl F.2.2.2.2 ⟨by rw [C.2.2.2.1]; exact hR.1, by rw [C.2.2.2.1]; exact hR.2⟩) ⟨Wd.blind _, fun U hU hWm => ⟨rfl, by rw [hU]; exact hw, C.2.1.move hS hU hWm⟩⟩ rfl hn hl.1 rfl (lv_room hW) hd ⟨by rw [C.2.2.2.1]; exact hcs, by rw [C.2.2.2.1]; exact Nat.mul_le_mul_left 6 hcs⟩) hS (fun q _ h => h) (fun q h => h) (fun r u t H1 locs1 ht hvm hpost hB hsz hkeep hS1 => ?_)
  subst hpost
  rw [ht] at hB
  exact k H1 locs1 ls hl hB hS1
theorem g_nL {x : Int64} (C : Cx Γ cc nL own (rmK fr lo mc)) (hd : decode cc pc = .ok (.invokestatic idx, 3)) (F : MFs y Cn bytes maxL ret n) {host : String} (h1 : (own, idx, y, host) ∈ nestW) (hR : fr' + 1 ≤ fr ∧ 8 + (maxL + 11) + lo' ≤ lo) (hn : As.length = n) (hst : stk = As.reverse ++ st) (hW : (st.map fun v => v.category).sum ≤ 8) (hcs : cs ≤ mc) (hM : KL (gl Γ) y bytes maxL ret fr' lo' (gw Γ) As mem x m') (k : G Γ nL cs m' (pc + 3) lv (.long x :: st)) : G Γ nL cs mem pc lv stk := by
  intro H locs ls hl hw hS
  subst hst
  refine va_calll (va_runSN (As := As) (rest := st) C.1 hM ⟨va_cnB n C.1.2.2.2.2 (gi_N F) rfl rfl rfl (C.2.1.2.1 _ h1) (by rw [F.2.2.2.1]; exact C.1.2.2.2.2 _ F.2.1) F.2.2.2.2 ⟨by rw [C.2.2.2.1]; exact hR.1, by rw [C.2.2.2.1]; exact hR.2⟩, C.1.2.2.2.2 _ F.1, trivial⟩ ⟨Wd.blind _, fun U hU hWm => ⟨rfl, by rw [hU]; exact hw, C.2.1.move hS hU hWm⟩⟩ rfl hn hl.1 rfl (lv_room hW) hd ⟨by rw [C.2.2.2.1]; exact hcs, by rw [C.2.2.2.1]; exact Nat.mul_le_mul_left 6 hcs⟩) hS (fun q _ h => h) (fun q h => h) (fun r u t H1 locs1 ht hvm hpost hB hsz hkeep hS1 => ?_)
  subst hpost
  rw [ht] at hB
  exact k H1 locs1 ls hl hB hS1
theorem g_vD {x : UInt64} (C : Cx Γ cc nL own (rmK fr lo mc)) (hd : decode cc pc = .ok (.invokevirtual idx, 3)) (F : MFv y Cn bytes maxL ret n) (h1 : Cond.methodLink own idx y ∈ TT) (hc : vwCl[ci]? = some (Cn, T, N)) (hci : ci ≤ 10) (hR : fr' + 1 ≤ fr ∧ 8 + (maxL + 11) + lo' ≤ lo) (hn : As.length = n) (hst : stk = As.reverse ++ .ref (oa (gw Γ) a) :: st) (hW : (st.map fun v => v.category).sum ≤ 8) (hcs : cs ≤ mc) (ha : (kd a == ci) = true) (hM : KD (gl Γ) y bytes maxL ret fr' lo' (gw Γ) (.ref (oa (gw Γ) a) :: As) mem x m') (k : G Γ nL cs m' (pc + 3) lv (.double x :: st)) : G Γ nL cs mem pc lv stk := by
  intro H locs ls hl hw hS
  have ha := beq_iff_eq.mp ha
  have hk : a < NC := kd_lt (by rw [ha]; omega)
  have he := pw_get (w := gw Γ) (m := mem) hk
  rw [en_obj ha hci] at he
  have hrecv := va_recv C.2.1.1 hw.1 hc he
  subst hst
  refine va_calld (va_runV (As := As) (rest := st) C.1 hM (cwV n C.1.2.2.2.2 (gi_V F h1) rfl rfl rfl F.2.2.2.2 ⟨by rw [C.2.2.2.1]; exact hR.1, by rw [C.2.2.2.1]; exact hR.2⟩) ⟨Wd.blind _, hrecv, fun U hU hWm => ⟨rfl, by rw [hU]; exact hw, C.2.1.move hS hU hWm⟩⟩ rfl hn hl.1 rfl (lv_room hW) hd ⟨by rw [C.2.2.2.1]; exact hcs, by rw [C.2.2.2.1]; exact Nat.mul_le_mul_left 6 hcs⟩) hS (fun q _ h => h) (fun q h => h) (fun r u t H1 locs1 ht hvm hpost hB hsz hkeep hS1 => ?_)
  subst hpost
  rw [ht] at hB
  exact k H1 locs1 ls hl hB hS1
theorem g_sD {x : UInt64} (C : Cx Γ cc nL own (rmK fr lo mc)) (hd : decode cc pc = .ok (.invokestatic idx, 3)) (F : MFs y Cn bytes maxL ret n) (h1 : Cond.methodLink own idx y ∈ TT) (hR : fr' + 1 ≤ fr ∧ 8 + (maxL + 11) + lo' ≤ lo) (hn : As.length = n) (hst : stk = As.reverse ++ st) (hW : (st.map fun v => v.category).sum ≤ 8) (hcs : cs ≤ mc) (hM : KD (gl Γ) y bytes maxL ret fr' lo' (gw Γ) As mem x m') (k : G Γ nL cs m' (pc + 3) lv (.double x :: st)) : G Γ nL cs mem pc lv stk := by
  intro H locs ls hl hw hS
  subst hst
  refine va_calld (va_runS (As := As) (rest := st) C.1 hM (va_cwS n C.1.2.2.2.2 (gi_S F h1) rfl rfl rfl F.2.2.2.2 ⟨by rw [C.2.2.2.1]; exact hR.1, by rw [C.2.2.2.1]; exact hR.2⟩) ⟨Wd.blind _, fun U hU hWm => ⟨rfl, by rw [hU]; exact hw, C.2.1.move hS hU hWm⟩⟩ rfl hn hl.1 rfl (lv_room hW) hd ⟨by rw [C.2.2.2.1]; exact hcs, by rw [C.2.2.2.1]; exact Nat.mul_le_mul_left 6 hcs⟩) hS (fun q _ h => h) (fun q h => h) (fun r u t H1 locs1 ht hvm hpost hB hsz hkeep hS1 => ?_)
  subst hpost
  rw [ht] at hB
  exact k H1 locs1 ls hl hB hS1
theorem g_nD {x : UInt64} (C : Cx Γ cc nL own (rmK fr lo mc)) (hd : decode cc pc = .ok (.invokestatic idx, 3)) (F : MFs y Cn bytes maxL ret n) {host : String} (h1 : (own, idx, y, host) ∈ nestW) (hR : fr' + 1 ≤ fr ∧ 8 + (maxL + 11) + lo' ≤ lo) (hn : As.length = n) (hst : stk = As.reverse ++ st) (hW : (st.map fun v => v.category).sum ≤ 8) (hcs : cs ≤ mc) (hM : KD (gl Γ) y bytes maxL ret fr' lo' (gw Γ) As mem x m') (k : G Γ nL cs m' (pc + 3) lv (.double x :: st)) : G Γ nL cs mem pc lv stk := by
  intro H locs ls hl hw hS
  subst hst
  refine va_calld (va_runSN (As := As) (rest := st) C.1 hM ⟨va_cnB n C.1.2.2.2.2 (gi_N F) rfl rfl rfl (C.2.1.2.1 _ h1) (by rw [F.2.2.2.1]; exact C.1.2.2.2.2 _ F.2.1) F.2.2.2.2 ⟨by rw [C.2.2.2.1]; exact hR.1, by rw [C.2.2.2.1]; exact hR.2⟩, C.1.2.2.2.2 _ F.1, trivial⟩ ⟨Wd.blind _, fun U hU hWm => ⟨rfl, by rw [hU]; exact hw, C.2.1.move hS hU hWm⟩⟩ rfl hn hl.1 rfl (lv_room hW) hd ⟨by rw [C.2.2.2.1]; exact hcs, by rw [C.2.2.2.1]; exact Nat.mul_le_mul_left 6 hcs⟩) hS (fun q _ h => h) (fun q h => h) (fun r u t H1 locs1 ht hvm hpost hB hsz hkeep hS1 => ?_)
  subst hpost
  rw [ht] at hB
  exact k H1 locs1 ls hl hB hS1
/-- the exception e stands thrown over this place -/
def GX (Γ : Gc) (nL cs : Nat) (mem : Mem) (pc : Nat) (lv : List (Nat × Value)) (e : Nat) : Prop :=
  ∀ (H : Heap) (locs : List Loc) (ls : Array Slot) (rest : List Value) (q : Addr) (ce : Cell), lv_has ls nL lv → Wp (gw Γ) mem H → va_S (oA (gw Γ)) (gs Γ).heap H locs → H[q]? = some ce → ce.vm = .none → (gs Γ).vm.findClass (exN e) = some ce.cls → vx_W (gp Γ) (gl Γ) (ge Γ) (gRm Γ) (gs Γ) (gm Γ) (gar Γ) (gbe Γ) (gme Γ) (gc Γ) H locs cs (6 * cs) (gQ Γ) (F0 (gm Γ) pc ls rest) q
theorem g_xvI {mc' : Nat} {o : (Int32 ⊕ Nat) × Mem} (C : Cx Γ cc nL own (rmK fr lo mc)) (hd : decode cc pc = .ok (.invokevirtual idx, 3)) (F : MFv y Cn bytes maxL ret n) (h1 : Cond.methodLink own idx y ∈ TT) (hc : vwCl[ci]? = some (Cn, T, N)) (hci : ci ≤ 10) (hR : fr' + 1 ≤ fr ∧ 8 + (maxL + 11) + lo' ≤ lo) (hn : As.length = n) (hst : stk = As.reverse ++ .ref (oa (gw Γ) a) :: st) (hW : (st.map fun v => v.category).sum ≤ 8) (hcs : cs + mc' ≤ mc) (ha : (kd a == ci) = true) (hM : XI (gl Γ) y bytes maxL ret fr' lo' mc' (gw Γ) (.ref (oa (gw Γ) a) :: As) mem o) (kx : ∀ e, o.1 = .inr e → GX Γ nL (cs + mc') o.2 pc lv e) (k : ∀ x, o.1 = .inl x → G Γ nL (cs + mc') o.2 (pc + 3) lv (.int x :: st)) : G Γ nL cs mem pc lv stk := by
  intro H locs ls hl hw hS
  have ha := beq_iff_eq.mp ha
  have hk : a < NC := kd_lt (by rw [ha]; omega)
  have he := pw_get (w := gw Γ) (m := mem) hk
  rw [en_obj ha hci] at he
  have hrecv := va_recv C.2.1.1 hw.1 hc he
  subst hst
  have e6 : 6 * (cs + mc') = 6 * cs + 6 * mc' := Nat.mul_add 6 cs mc'
  refine vx_calli (vx_runV (As := As) (rest := st) C.1 hM (cwV n C.1.2.2.2.2 (gi_V F h1) rfl rfl rfl F.2.2.2.2 ⟨by rw [C.2.2.2.1]; exact hR.1, by rw [C.2.2.2.1]; exact hR.2⟩) ⟨Wd.blind _, hrecv, fun U hU hWm => ⟨rfl, by rw [hU]; exact hw, C.2.1.move hS hU hWm⟩⟩ rfl hn hl.1 rfl (lv_room hW) hd ⟨by rw [C.2.2.2.1]; exact hcs, by rw [C.2.2.2.1]; show 6 * cs + 6 * mc' ≤ 6 * mc; omega⟩) hS (fun q _ h => h) (fun q h => h) (fun q _ h => h) (fun E ce q9 u t H1 locs1 ht hvm hpx hB hsz hkeep hS1 h9 hv9 hc9 => ?_) (fun r u t H1 locs1 ht hvm hpost hB hsz hkeep hS1 => ?_)
  · obtain ⟨rfl, hB⟩ := hB
    rw [ht] at hB
    rw [← e6]
    refine kx u ?_ H1 locs1 ls _ q9 ce hl hB hS1 h9 hv9 hc9
    cases ho : o.1 with
    | inl z => rw [ho] at hpx; cases hpx
    | inr z => rw [ho] at hpx; rw [Option.some.inj hpx]
  · rw [ht] at hB
    rw [← e6]
    exact k r hpost H1 locs1 ls hl hB hS1
theorem g_xvV {mc' : Nat} {o : (Unit ⊕ Nat) × Mem} (C : Cx Γ cc nL own (rmK fr lo mc)) (hd : decode cc pc = .ok (.invokevirtual idx, 3)) (F : MFv y Cn bytes maxL ret n) (h1 : Cond.methodLink own idx y ∈ TT) (hc : vwCl[ci]? = some (Cn, T, N)) (hci : ci ≤ 10) (hR : fr' + 1 ≤ fr ∧ 8 + (maxL + 11) + lo' ≤ lo) (hn : As.length = n) (hst : stk = As.reverse ++ .ref (oa (gw Γ) a) :: st) (hW : (st.map fun v => v.category).sum ≤ 8) (hcs : cs + mc' ≤ mc) (ha : (kd a == ci) = true) (hM : XV (gl Γ) y bytes maxL ret fr' lo' mc' (gw Γ) (.ref (oa (gw Γ) a) :: As) mem o) (kx : ∀ e, o.1 = .inr e → GX Γ nL (cs + mc') o.2 pc lv e) (k : o.1 = .inl () → G Γ nL (cs + mc') o.2 (pc + 3) lv st) : G Γ nL cs mem pc lv stk := by
  intro H locs ls hl hw hS
  have ha := beq_iff_eq.mp ha
  have hk : a < NC := kd_lt (by rw [ha]; omega)
  have he := pw_get (w := gw Γ) (m := mem) hk
  rw [en_obj ha hci] at he
  have hrecv := va_recv C.2.1.1 hw.1 hc he
  subst hst
  have e6 : 6 * (cs + mc') = 6 * cs + 6 * mc' := Nat.mul_add 6 cs mc'
  refine vx_callv (vx_runV (As := As) (rest := st) C.1 hM (cwV n C.1.2.2.2.2 (gi_V F h1) rfl rfl rfl F.2.2.2.2 ⟨by rw [C.2.2.2.1]; exact hR.1, by rw [C.2.2.2.1]; exact hR.2⟩) ⟨Wd.blind _, hrecv, fun U hU hWm => ⟨rfl, by rw [hU]; exact hw, C.2.1.move hS hU hWm⟩⟩ rfl hn hl.1 rfl (lv_room hW) hd ⟨by rw [C.2.2.2.1]; exact hcs, by rw [C.2.2.2.1]; show 6 * cs + 6 * mc' ≤ 6 * mc; omega⟩) hS (fun q _ h => h) (fun q h => h) (fun q _ h => h) (fun E ce q9 u t H1 locs1 ht hvm hpx hB hsz hkeep hS1 h9 hv9 hc9 => ?_) (fun u t H1 locs1 ht hvm hpost hB hsz hkeep hS1 => ?_)
  · obtain ⟨rfl, hB⟩ := hB
    rw [ht] at hB
    rw [← e6]
    refine kx u ?_ H1 locs1 ls _ q9 ce hl hB hS1 h9 hv9 hc9
    cases ho : o.1 with
    | inl z => rw [ho] at hpx; cases hpx
    | inr z => rw [ho] at hpx; rw [Option.some.inj hpx]
  · rw [ht] at hB
    rw [← e6]
    exact k hpost H1 locs1 ls hl hB hS1
theorem g_xsV {mc' : Nat} {o : (Unit ⊕ Nat) × Mem} (C : Cx Γ cc nL own (rmK fr lo mc)) (hd : decode cc pc = .ok (.invokestatic idx, 3)) (F : MFs y Cn bytes maxL ret n) (h1 : Cond.methodLink own idx y ∈ TT) (hR : fr' + 1 ≤ fr ∧ 8 + (maxL + 11) + lo' ≤ lo) (hn : As.length = n) (hst : stk = As.reverse ++ st) (hW : (st.map fun v => v.category).sum ≤ 8) (hcs : cs + mc' ≤ mc) (hM : XV (gl Γ) y bytes maxL ret fr' lo' mc' (gw Γ) As mem o) (kx : ∀ e, o.1 = .inr e → GX Γ nL (cs + mc') o.2 pc lv e) (k : o.1 = .inl () → G Γ nL (cs + mc') o.2 (pc + 3) lv st) : G Γ nL cs mem pc lv stk := by
  intro H locs ls hl hw hS
  subst hst
  have e6 : 6 * (cs + mc') = 6 * cs + 6 * mc' := Nat.mul_add 6 cs mc'
  refine vx_callv (vx_runS (As := As) (rest := st) C.1 hM (va_cwS n C.1.2.2.2.2 (gi_S F h1) rfl rfl rfl F.2.2.2.2 ⟨by rw [C.2.2.2.1]; exact hR.1, by rw [C.2.2.2.1]; exact hR.2⟩) ⟨Wd.blind _, fun U hU hWm => ⟨rfl, by rw [hU]; exact hw, C.2.1.move hS hU hWm⟩⟩ rfl hn hl.1 rfl (lv_room hW) hd ⟨by rw [C.2.2.2.1]; exact hcs, by rw [C.2.2.2.1]; show 6 * cs + 6 * mc' ≤ 6 * mc; omega⟩) hS (fun q _ h => h) (fun q h => h) (fun q _ h => h) (fun E ce q9 u t H1 locs1 ht hvm hpx hB hsz hkeep hS1 h9 hv9 hc9 => ?_) (fun u t H1 locs1 ht hvm hpost hB hsz hkeep hS1 => ?_)
  · obtain ⟨rfl, hB⟩ := hB
    rw [ht] at hB
    rw [← e6]
    refine kx u ?_ H1 locs1 ls _ q9 ce hl hB hS1 h9 hv9 hc9
    cases ho : o.1 with
    | inl z => rw [ho] at hpx; cases hpx
    | inr z => rw [ho] at hpx; rw [Option.some.inj hpx]
  · rw [ht] at hB
    rw [← e6]
    exact k hpost H1 locs1 ls hl hB hS1
theorem g_xvD {mc' : Nat} {o : (UInt64 ⊕ Nat) × Mem} (C : Cx Γ cc nL own (rmK fr lo mc)) (hd : decode cc pc = .ok (.invokevirtual idx, 3)) (F : MFv y Cn bytes maxL ret n) (h1 : Cond.methodLink own idx y ∈ TT) (hc : vwCl[ci]? = some (Cn, T, N)) (hci : ci ≤ 10) (hR : fr' + 1 ≤ fr ∧ 8 + (maxL + 11) + lo' ≤ lo) (hn : As.length = n) (hst : stk = As.reverse ++ .ref (oa (gw Γ) a) :: st) (hW : (st.map fun v => v.category).sum ≤ 8) (hcs : cs + mc' ≤ mc) (ha : (kd a == ci) = true) (hM : XD (gl Γ) y bytes maxL ret fr' lo' mc' (gw Γ) (.ref (oa (gw Γ) a) :: As) mem o) (kx : ∀ e, o.1 = .inr e → GX Γ nL (cs + mc') o.2 pc lv e) (k : ∀ x, o.1 = .inl x → G Γ nL (cs + mc') o.2 (pc + 3) lv (.double x :: st)) : G Γ nL cs mem pc lv stk := by
  intro H locs ls hl hw hS
  have ha := beq_iff_eq.mp ha
  have hk : a < NC := kd_lt (by rw [ha]; omega)
  have he := pw_get (w := gw Γ) (m := mem) hk
  rw [en_obj ha hci] at he
  have hrecv := va_recv C.2.1.1 hw.1 hc he
  subst hst
  have e6 : 6 * (cs + mc') = 6 * cs + 6 * mc' := Nat.mul_add 6 cs mc'
  refine vx_calld (vx_runV (As := As) (rest := st) C.1 hM (cwV n C.1.2.2.2.2 (gi_V F h1) rfl rfl rfl F.2.2.2.2 ⟨by rw [C.2.2.2.1]; exact hR.1, by rw [C.2.2.2.1]; exact hR.2⟩) ⟨Wd.blind _, hrecv, fun U hU hWm => ⟨rfl, by rw [hU]; exact hw, C.2.1.move hS hU hWm⟩⟩ rfl hn hl.1 rfl (lv_room hW) hd ⟨by rw [C.2.2.2.1]; exact hcs, by rw [C.2.2.2.1]; show 6 * cs + 6 * mc' ≤ 6 * mc; omega⟩) hS (fun q _ h => h) (fun q h => h) (fun q _ h => h) (fun E ce q9 u t H1 locs1 ht hvm hpx hB hsz hkeep hS1 h9 hv9 hc9 => ?_) (fun r u t H1 locs1 ht hvm hpost hB hsz hkeep hS1 => ?_)
  · obtain ⟨rfl, hB⟩ := hB
    rw [ht] at hB
    rw [← e6]
    refine kx u ?_ H1 locs1 ls _ q9 ce hl hB hS1 h9 hv9 hc9
    cases ho : o.1 with
    | inl z => rw [ho] at hpx; cases hpx
    | inr z => rw [ho] at hpx; rw [Option.some.inj hpx]
  · rw [ht] at hB
    rw [← e6]
    exact k r hpost H1 locs1 ls hl hB hS1
end CALLS
/-! ends of a body -/
def RI (Γ : Gc) (nL : Nat) (cc : ByteArray) (cs : Nat) (x : Int32) (m' : Mem) : Prop := ∀ pc lv, decode cc pc = .ok (.ireturn, 1) → G Γ nL cs m' pc lv [.int x]
def RZ (Γ : Gc) (nL : Nat) (cc : ByteArray) (cs : Nat) (x : Int32) (m' : Mem) : Prop := ∀ pc lv, isB x = true → decode cc pc = .ok (.ireturn, 1) → G Γ nL cs m' pc lv [.int x]
def RV (Γ : Gc) (nL : Nat) (cc : ByteArray) (cs : Nat) (m' : Mem) : Prop := ∀ pc lv, decode cc pc = .ok (.return_, 1) → G Γ nL cs m' pc lv []
def RL' (Γ : Gc) (nL : Nat) (cc : ByteArray) (cs : Nat) (x : Int64) (m' : Mem) : Prop := ∀ pc lv, decode cc pc = .ok (.lreturn, 1) → G Γ nL cs m' pc lv [.long x]
def RD (Γ : Gc) (nL : Nat) (cc : ByteArray) (cs : Nat) (x : UInt64) (m' : Mem) : Prop := ∀ pc lv, decode cc pc = .ok (.dreturn, 1) → G Γ nL cs m' pc lv [.double x]
/-- an exception e may leave the body, with the memory m' -/
def RX (Γ : Gc) (e : Nat) (m' : Mem) : Prop := ∃ (Qc : Array Value → State → Outcome → State → Prop) (XC : String → State → State → Prop) (mc : Nat), gQ Γ = vx_MQ (gbe Γ) Qc XC (gar Γ) (gs Γ) mc (6 * mc) (oA (gw Γ)) ∧ (gRm Γ).cells = mc ∧ (gRm Γ).slots = 6 * mc ∧ (∀ x ∈ (gc Γ).exceptionTable.toList, False) ∧ ∀ t : State, Wp (gw Γ) m' t.heap → va_F (oA (gw Γ)) (gs Γ) t → XC (exN e) (gs Γ) t
