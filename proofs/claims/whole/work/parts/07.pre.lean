/-! small things that the rows use -/
/-- a new memory gets a name -/
def wr {β : Type} (x : Mem) (K : Mem → Option β) : Option β := K x
theorem wr_some {β : Type} {x : Mem} {K : Mem → Option β} {o : β} (h : wr x K = some o) : ∃ m1, m1 = x ∧ K m1 = some o := ⟨x, rfl, h⟩
theorem G_m {Γ : Gc} {nL cs pc : Nat} {m m1 : Mem} {lv : List (Nat × Value)} {st : List Value} (e : m1 = m) (k : G Γ nL cs m1 pc lv st) : G Γ nL cs m pc lv st := e ▸ k
def EIn (Γ : Gc) (nL : Nat) (cc : ByteArray) (b : Int32 × Mem) : Prop := RI Γ nL cc 0 b.1 b.2
def EZn (Γ : Gc) (nL : Nat) (cc : ByteArray) (b : Int32 × Mem) : Prop := RZ Γ nL cc 0 b.1 b.2
def EVn (Γ : Gc) (nL : Nat) (cc : ByteArray) (b : Mem) : Prop := RV Γ nL cc 0 b
def ELn (Γ : Gc) (nL : Nat) (cc : ByteArray) (b : Int64 × Mem) : Prop := RL' Γ nL cc 0 b.1 b.2
def EDn (Γ : Gc) (nL : Nat) (cc : ByteArray) (b : UInt64 × Mem) : Prop := RD Γ nL cc 0 b.1 b.2
theorem ne_of_g {y : Int32} (h : (!(y == 0)) = true) : ¬ y = 0 := by
  intro e
  subst e
  exact absurd h (by decide)
theorem neL_of_g {y : Int64} (h : (!(y == 0)) = true) : ¬ y = 0 := by
  intro e
  subst e
  exact absurd h (by decide)
theorem sw_n {x : Int32} {k : Int32} {n : Int} (h : ¬ x = k) (hk : k.toInt = n) : x.toInt ≠ n := fun e => h (Int32.toInt_inj.mp (e.trans hk.symm))
theorem sw4 {x : Int32} (c0 : ¬ x = (0 : Int32)) (c1 : ¬ x = (1 : Int32)) (c2 : ¬ x = (2 : Int32)) (c3 : ¬ x = (3 : Int32)) : x.toInt < (0 : Int) ∨ (3 : Int) < x.toInt := by
  have h0 := sw_n (n := 0) c0 (by decide)
  have h1 := sw_n (n := 1) c1 (by decide)
  have h2 := sw_n (n := 2) c2 (by decide)
  have h3 := sw_n (n := 3) c3 (by decide)
  omega
theorem sw7 {x : Int32} (c0 : ¬ x = (0 : Int32)) (c1 : ¬ x = (1 : Int32)) (c2 : ¬ x = (2 : Int32)) (c3 : ¬ x = (3 : Int32)) (c4 : ¬ x = (4 : Int32)) (c5 : ¬ x = (5 : Int32)) (c6 : ¬ x = (6 : Int32)) : x.toInt < (0 : Int) ∨ (6 : Int) < x.toInt := by
  have h0 := sw_n (n := 0) c0 (by decide)
  have h1 := sw_n (n := 1) c1 (by decide)
  have h2 := sw_n (n := 2) c2 (by decide)
  have h3 := sw_n (n := 3) c3 (by decide)
  have h4 := sw_n (n := 4) c4 (by decide)
  have h5 := sw_n (n := 5) c5 (by decide)
  have h6 := sw_n (n := 6) c6 (by decide)
  omega
theorem ttL {ws : List Cond} (ps : List Nat) (hp : ws = ps.filterMap (fun i => lw_tbl[i]?)) (hg : ws.all goodWord = true) : ∀ w ∈ ws, w ∈ TT := by
  intro w hw
  have hg := List.all_eq_true.mp hg w hw
  rw [hp] at hw
  obtain ⟨i, -, hi⟩ := List.mem_filterMap.mp hw
  exact List.mem_filter.mpr ⟨List.mem_of_getElem? hi, hg⟩
theorem ttF {L : List Cond} (h : ∀ w ∈ L.filter goodWord, w ∈ lw_tbl) : ∀ w ∈ L.filter goodWord, w ∈ TT := fun w hw => List.mem_filter.mpr ⟨h w hw, (List.mem_filter.mp hw).2⟩
section XCALLS
variable {Γ : Gc} {cc : ByteArray} {nL cs pc : Nat} {own : String} {mem : Mem} {lv : List (Nat × Value)} {st : List Value} {y : MethodName} {Cn : String} {bytes : ByteArray} {maxL n fr' lo' fr lo mc mc' idx ci a N e : Nat} {ret : Option FieldType} {T : u_T} {As stk : List Value} {m' : Mem}
theorem g_xvI_ok {x : Int32} (C : Cx Γ cc nL own (rmK fr lo mc)) (hd : decode cc pc = .ok (.invokevirtual idx, 3)) (F : MFv y Cn bytes maxL ret n) (h1 : Cond.methodLink own idx y ∈ TT) (hc : vwCl[ci]? = some (Cn, T, N)) (hci : ci ≤ 10) (hR : fr' + 1 ≤ fr ∧ 8 + (maxL + 11) + lo' ≤ lo) (hn : As.length = n) (hst : stk = As.reverse ++ .ref (oa (gw Γ) a) :: st) (hW : (st.map fun v => v.category).sum ≤ 8) (hcs : cs + mc' ≤ mc) (ha : (kd a == ci) = true) (hM : XI (gl Γ) y bytes maxL ret fr' lo' mc' (gw Γ) (.ref (oa (gw Γ) a) :: As) mem (.inl x, m')) (k : G Γ nL (cs + mc') m' (pc + 3) lv (.int x :: st)) : G Γ nL cs mem pc lv stk := g_xvI C hd F h1 hc hci hR hn hst hW hcs ha hM (fun e he => nomatch he) (fun x9 hx => by cases hx; exact k)
theorem g_xvI_th (C : Cx Γ cc nL own (rmK fr lo mc)) (hd : decode cc pc = .ok (.invokevirtual idx, 3)) (F : MFv y Cn bytes maxL ret n) (h1 : Cond.methodLink own idx y ∈ TT) (hc : vwCl[ci]? = some (Cn, T, N)) (hci : ci ≤ 10) (hR : fr' + 1 ≤ fr ∧ 8 + (maxL + 11) + lo' ≤ lo) (hn : As.length = n) (hst : stk = As.reverse ++ .ref (oa (gw Γ) a) :: st) (hW : (st.map fun v => v.category).sum ≤ 8) (hcs : cs + mc' ≤ mc) (ha : (kd a == ci) = true) (hM : XI (gl Γ) y bytes maxL ret fr' lo' mc' (gw Γ) (.ref (oa (gw Γ) a) :: As) mem (.inr e, m')) (hX : RX Γ e m') : G Γ nL cs mem pc lv stk := g_xvI C hd F h1 hc hci hR hn hst hW hcs ha hM (fun e9 he => by cases he; exact gx_out C hX hcs) (fun x9 hx => nomatch hx)
theorem g_xvV_ok (C : Cx Γ cc nL own (rmK fr lo mc)) (hd : decode cc pc = .ok (.invokevirtual idx, 3)) (F : MFv y Cn bytes maxL ret n) (h1 : Cond.methodLink own idx y ∈ TT) (hc : vwCl[ci]? = some (Cn, T, N)) (hci : ci ≤ 10) (hR : fr' + 1 ≤ fr ∧ 8 + (maxL + 11) + lo' ≤ lo) (hn : As.length = n) (hst : stk = As.reverse ++ .ref (oa (gw Γ) a) :: st) (hW : (st.map fun v => v.category).sum ≤ 8) (hcs : cs + mc' ≤ mc) (ha : (kd a == ci) = true) (hM : XV (gl Γ) y bytes maxL ret fr' lo' mc' (gw Γ) (.ref (oa (gw Γ) a) :: As) mem (.inl (), m')) (k : G Γ nL (cs + mc') m' (pc + 3) lv st) : G Γ nL cs mem pc lv stk := g_xvV C hd F h1 hc hci hR hn hst hW hcs ha hM (fun e he => nomatch he) (fun _ => k)
theorem g_xvV_th (C : Cx Γ cc nL own (rmK fr lo mc)) (hd : decode cc pc = .ok (.invokevirtual idx, 3)) (F : MFv y Cn bytes maxL ret n) (h1 : Cond.methodLink own idx y ∈ TT) (hc : vwCl[ci]? = some (Cn, T, N)) (hci : ci ≤ 10) (hR : fr' + 1 ≤ fr ∧ 8 + (maxL + 11) + lo' ≤ lo) (hn : As.length = n) (hst : stk = As.reverse ++ .ref (oa (gw Γ) a) :: st) (hW : (st.map fun v => v.category).sum ≤ 8) (hcs : cs + mc' ≤ mc) (ha : (kd a == ci) = true) (hM : XV (gl Γ) y bytes maxL ret fr' lo' mc' (gw Γ) (.ref (oa (gw Γ) a) :: As) mem (.inr e, m')) (hX : RX Γ e m') : G Γ nL cs mem pc lv stk := g_xvV C hd F h1 hc hci hR hn hst hW hcs ha hM (fun e9 he => by cases he; exact gx_out C hX hcs) (fun hx => nomatch hx)
theorem g_xvD_ok {x : UInt64} (C : Cx Γ cc nL own (rmK fr lo mc)) (hd : decode cc pc = .ok (.invokevirtual idx, 3)) (F : MFv y Cn bytes maxL ret n) (h1 : Cond.methodLink own idx y ∈ TT) (hc : vwCl[ci]? = some (Cn, T, N)) (hci : ci ≤ 10) (hR : fr' + 1 ≤ fr ∧ 8 + (maxL + 11) + lo' ≤ lo) (hn : As.length = n) (hst : stk = As.reverse ++ .ref (oa (gw Γ) a) :: st) (hW : (st.map fun v => v.category).sum ≤ 8) (hcs : cs + mc' ≤ mc) (ha : (kd a == ci) = true) (hM : XD (gl Γ) y bytes maxL ret fr' lo' mc' (gw Γ) (.ref (oa (gw Γ) a) :: As) mem (.inl x, m')) (k : G Γ nL (cs + mc') m' (pc + 3) lv (.double x :: st)) : G Γ nL cs mem pc lv stk := g_xvD C hd F h1 hc hci hR hn hst hW hcs ha hM (fun e he => nomatch he) (fun x9 hx => by cases hx; exact k)
theorem g_xvD_th (C : Cx Γ cc nL own (rmK fr lo mc)) (hd : decode cc pc = .ok (.invokevirtual idx, 3)) (F : MFv y Cn bytes maxL ret n) (h1 : Cond.methodLink own idx y ∈ TT) (hc : vwCl[ci]? = some (Cn, T, N)) (hci : ci ≤ 10) (hR : fr' + 1 ≤ fr ∧ 8 + (maxL + 11) + lo' ≤ lo) (hn : As.length = n) (hst : stk = As.reverse ++ .ref (oa (gw Γ) a) :: st) (hW : (st.map fun v => v.category).sum ≤ 8) (hcs : cs + mc' ≤ mc) (ha : (kd a == ci) = true) (hM : XD (gl Γ) y bytes maxL ret fr' lo' mc' (gw Γ) (.ref (oa (gw Γ) a) :: As) mem (.inr e, m')) (hX : RX Γ e m') : G Γ nL cs mem pc lv stk := g_xvD C hd F h1 hc hci hR hn hst hW hcs ha hM (fun e9 he => by cases he; exact gx_out C hX hcs) (fun x9 hx => nomatch hx)
theorem g_xsV_ok (C : Cx Γ cc nL own (rmK fr lo mc)) (hd : decode cc pc = .ok (.invokestatic idx, 3)) (F : MFs y Cn bytes maxL ret n) (h1 : Cond.methodLink own idx y ∈ TT) (hR : fr' + 1 ≤ fr ∧ 8 + (maxL + 11) + lo' ≤ lo) (hn : As.length = n) (hst : stk = As.reverse ++ st) (hW : (st.map fun v => v.category).sum ≤ 8) (hcs : cs + mc' ≤ mc) (hM : XV (gl Γ) y bytes maxL ret fr' lo' mc' (gw Γ) As mem (.inl (), m')) (k : G Γ nL (cs + mc') m' (pc + 3) lv st) : G Γ nL cs mem pc lv stk := g_xsV C hd F h1 hR hn hst hW hcs hM (fun e he => nomatch he) (fun _ => k)
theorem g_xsV_th (C : Cx Γ cc nL own (rmK fr lo mc)) (hd : decode cc pc = .ok (.invokestatic idx, 3)) (F : MFs y Cn bytes maxL ret n) (h1 : Cond.methodLink own idx y ∈ TT) (hR : fr' + 1 ≤ fr ∧ 8 + (maxL + 11) + lo' ≤ lo) (hn : As.length = n) (hst : stk = As.reverse ++ st) (hW : (st.map fun v => v.category).sum ≤ 8) (hcs : cs + mc' ≤ mc) (hM : XV (gl Γ) y bytes maxL ret fr' lo' mc' (gw Γ) As mem (.inr e, m')) (hX : RX Γ e m') : G Γ nL cs mem pc lv stk := g_xsV C hd F h1 hR hn hst hW hcs hM (fun e9 he => by cases he; exact gx_out C hX hcs) (fun hx => nomatch hx)
end XCALLS
/-! the ten words: length() and charAt() of their Strings -/
def strL (i : Nat) : Int32 := Int32.ofNat (lenST.getD i 0)
def okS (i : Nat) (k : Int32) : Bool := decide (i < nST) && inb k (lenST.getD i 0)
def strC (i : Nat) (k : Int32) : Int32 := (bytST.getD i []).getD k.toNatClampNeg 0
theorem okA_of {c a n : Nat} {i : Int32} (hk : (kd a == c) = true) (hl : ln a = n) (h : inb i n = true) : okA c a i = true := by
  subst hl
  simp only [okA, Bool.and_eq_true]
  exact ⟨hk, h⟩
theorem g_alen' {Γ : Gc} {cc : ByteArray} {nL cs pc : Nat} {own : String} {rm : Room} {mem : Mem} {lv : List (Nat × Value)} {st : List Value} {a : Nat} {v : Int32} (C : Cx Γ cc nL own rm) (hd : decode cc pc = .ok (.arraylength, 1)) (ha : (kd a == 12) = true) (hv : Int32.ofNat (ln a) = v) (k : G Γ nL cs mem (pc + 1) lv (.int v :: st)) : G Γ nL cs mem pc lv (.ref (oa (gw Γ) a) :: st) := g_alen C hd ha (hv ▸ k)
theorem g_iald' {Γ : Gc} {cc : ByteArray} {nL cs pc : Nat} {own : String} {rm : Room} {mem : Mem} {lv : List (Nat × Value)} {st : List Value} {a j : Nat} {i : Int32} (C : Cx Γ cc nL own rm) (hd : decode cc pc = .ok (.iaload, 1)) (ha : okA 12 a i = true) (hj : i.toNatClampNeg = j) (k : G Γ nL cs mem (pc + 1) lv (.int (gI mem a j) :: st)) : G Γ nL cs mem pc lv (.int i :: .ref (oa (gw Γ) a) :: st) := by
  subst hj
  exact g_iald C hd ha k
theorem g_bald' {Γ : Gc} {cc : ByteArray} {nL cs pc : Nat} {own : String} {rm : Room} {mem : Mem} {lv : List (Nat × Value)} {st : List Value} {a j : Nat} {i : Int32} (C : Cx Γ cc nL own rm) (hd : decode cc pc = .ok (.baload, 1)) (ha : okA 11 a i = true) (hj : i.toNatClampNeg = j) (k : G Γ nL cs mem (pc + 1) lv (.int (gI mem a j) :: st)) : G Γ nL cs mem pc lv (.int i :: .ref (oa (gw Γ) a) :: st) := by
  subst hj
  exact g_bald C hd ha k
theorem g_zald' {Γ : Gc} {cc : ByteArray} {nL cs pc : Nat} {own : String} {rm : Room} {mem : Mem} {lv : List (Nat × Value)} {st : List Value} {a j : Nat} {i : Int32} (C : Cx Γ cc nL own rm) (hd : decode cc pc = .ok (.baload, 1)) (ha : okA 13 a i = true) (hj : i.toNatClampNeg = j) (k : G Γ nL cs mem (pc + 1) lv (.int (gI mem a j) :: st)) : G Γ nL cs mem pc lv (.int i :: .ref (oa (gw Γ) a) :: st) := by
  subst hj
  exact g_zald C hd ha k
theorem g_lald' {Γ : Gc} {cc : ByteArray} {nL cs pc : Nat} {own : String} {rm : Room} {mem : Mem} {lv : List (Nat × Value)} {st : List Value} {a j : Nat} {i : Int32} (C : Cx Γ cc nL own rm) (hd : decode cc pc = .ok (.laload, 1)) (ha : okA 15 a i = true) (hj : i.toNatClampNeg = j) (k : G Γ nL cs mem (pc + 1) lv (.long (gJ mem a j) :: st)) : G Γ nL cs mem pc lv (.int i :: .ref (oa (gw Γ) a) :: st) := by
  subst hj
  exact g_lald C hd ha k
theorem g_dald' {Γ : Gc} {cc : ByteArray} {nL cs pc : Nat} {own : String} {rm : Room} {mem : Mem} {lv : List (Nat × Value)} {st : List Value} {a j : Nat} {i : Int32} (C : Cx Γ cc nL own rm) (hd : decode cc pc = .ok (.daload, 1)) (ha : okA 16 a i = true) (hj : i.toNatClampNeg = j) (k : G Γ nL cs mem (pc + 1) lv (.double (gD mem a j) :: st)) : G Γ nL cs mem pc lv (.int i :: .ref (oa (gw Γ) a) :: st) := by
  subst hj
  exact g_dald C hd ha k
theorem g_aald' {Γ : Gc} {cc : ByteArray} {nL cs pc : Nat} {own : String} {rm : Room} {mem : Mem} {lv : List (Nat × Value)} {st : List Value} {a j : Nat} {i : Int32} (C : Cx Γ cc nL own rm) (hd : decode cc pc = .ok (.aaload, 1)) (ha : okA 14 a i = true) (hj : i.toNatClampNeg = j) (k : G Γ nL cs mem (pc + 1) lv (.ref (oa (gw Γ) (rt a j)) :: st)) : G Γ nL cs mem pc lv (.int i :: .ref (oa (gw Γ) a) :: st) := by
  subst hj
  exact g_aald C hd ha k
theorem g_iast' {Γ : Gc} {cc : ByteArray} {nL cs pc : Nat} {own : String} {rm : Room} {mem : Mem} {lv : List (Nat × Value)} {st : List Value} {a j : Nat} {i : Int32} {x : Int32} (C : Cx Γ cc nL own rm) (hd : decode cc pc = .ok (.iastore, 1)) (ha : okA 12 a i = true) (hj : i.toNatClampNeg = j) (k : G Γ nL cs (sI mem a j x) (pc + 1) lv st) : G Γ nL cs mem pc lv (.int x :: .int i :: .ref (oa (gw Γ) a) :: st) := by
  subst hj
  exact g_iast C hd ha k
theorem g_bast' {Γ : Gc} {cc : ByteArray} {nL cs pc : Nat} {own : String} {rm : Room} {mem : Mem} {lv : List (Nat × Value)} {st : List Value} {a j : Nat} {i : Int32} {x : Int32} (C : Cx Γ cc nL own rm) (hd : decode cc pc = .ok (.bastore, 1)) (ha : okA 11 a i = true) (hj : i.toNatClampNeg = j) (k : G Γ nL cs (sI mem a j (vp_nar .byte x)) (pc + 1) lv st) : G Γ nL cs mem pc lv (.int x :: .int i :: .ref (oa (gw Γ) a) :: st) := by
  subst hj
  exact g_bast C hd ha k
theorem g_zast' {Γ : Gc} {cc : ByteArray} {nL cs pc : Nat} {own : String} {rm : Room} {mem : Mem} {lv : List (Nat × Value)} {st : List Value} {a j : Nat} {i : Int32} {x : Int32} (C : Cx Γ cc nL own rm) (hd : decode cc pc = .ok (.bastore, 1)) (ha : okA 13 a i = true) (hj : i.toNatClampNeg = j) (k : G Γ nL cs (sI mem a j (vp_nar .boolean x)) (pc + 1) lv st) : G Γ nL cs mem pc lv (.int x :: .int i :: .ref (oa (gw Γ) a) :: st) := by
  subst hj
  exact g_zast C hd ha k
theorem g_last' {Γ : Gc} {cc : ByteArray} {nL cs pc : Nat} {own : String} {rm : Room} {mem : Mem} {lv : List (Nat × Value)} {st : List Value} {a j : Nat} {i : Int32} {x : Int64} (C : Cx Γ cc nL own rm) (hd : decode cc pc = .ok (.lastore, 1)) (ha : okA 15 a i = true) (hj : i.toNatClampNeg = j) (k : G Γ nL cs (sJ mem a j x) (pc + 1) lv st) : G Γ nL cs mem pc lv (.long x :: .int i :: .ref (oa (gw Γ) a) :: st) := by
  subst hj
  exact g_last C hd ha k
theorem g_dast' {Γ : Gc} {cc : ByteArray} {nL cs pc : Nat} {own : String} {rm : Room} {mem : Mem} {lv : List (Nat × Value)} {st : List Value} {a j : Nat} {i : Int32} {x : UInt64} (C : Cx Γ cc nL own rm) (hd : decode cc pc = .ok (.dastore, 1)) (ha : okA 16 a i = true) (hj : i.toNatClampNeg = j) (k : G Γ nL cs (sD mem a j x) (pc + 1) lv st) : G Γ nL cs mem pc lv (.double x :: .int i :: .ref (oa (gw Γ) a) :: st) := by
  subst hj
  exact g_dast C hd ha k
