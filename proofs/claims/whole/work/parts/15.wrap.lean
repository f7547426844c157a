/-! METHODS WITH HANDLERS (the law's own), AND THE LAW'S LOOP -/
def wsW (y : MethodName) (bytes : ByteArray) (maxL : Nat) (ret : Option FieldType) (hh : List (Nat × Nat × Nat × Nat)) : List Cond := Cond.codeWith y bytes maxL ret hh :: TT
def KW (l : Launch) (y : MethodName) (bytes : ByteArray) (maxL : Nat) (hh : List (Nat × Nat × Nat × Nat)) (fr lo mc : Nat) (w : Om) (av : List Value) (m : Mem) (x : Int32) (m' : Mem) : Prop :=
  Met l y (wsW y bytes maxL (some .int) hh) (rmK fr lo mc) (va_Pc av (Wd w m)) (va_Qi (fun r (_ : Unit) => r = x) (fun _ t => Wp w m' t.heap) (oA w)) mc (6 * mc) (oA w)
def EWn (Γ : Gc) (nL : Nat) (cc : ByteArray) (mc : Nat) (b : Int32 × Mem) : Prop := RI Γ nL cc mc b.1 b.2
theorem KW_of {l : Launch} {y : MethodName} {bytes : ByteArray} {maxL fr lo mc : Nat} {hh : List (Nat × Nat × Nat × Nat)} {w : Om} {av : List Value} {m m' : Mem} {x : Int32} (hst : l.stackTraces = false) (hy : plainName y.cls = true) (own : String) (ho : y.cls = own) (hlen : (lg_sl av).length ≤ maxL)
    (body : ∀ Γ : Gc, gw Γ = w → gl Γ = l → Cx Γ bytes maxL own (rmK fr lo mc) → (gc Γ).exceptionTable.toList = tableOf hh → EWn Γ maxL bytes mc (x, m') → G Γ maxL 0 m 0 (lv_args 0 av) []) : KW l y bytes maxL hh fr lo mc w av m x m' := by
  refine va_MetW (cc := bytes) (maxL := maxL) (ret := some .int) (hh := hh) hy rfl ?_
  intro p e s m0 args below meth c s₁ B hml hv
  obtain ⟨rfl, hw, hx⟩ := hv
  have hts := atoms_spec (ws := wsW y bytes maxL (some .int) hh) B.pre
  have hown := findClass_of_methodNamed B.named
  rw [ho] at hown
  have hG := body (p, l, e, (headSpec (wsW y bytes maxL (some .int) hh) (rmK fr lo mc)).room, s, m0, av.toArray, below, meth, c, w, MQ below (va_Qi (fun r (_ : Unit) => r = x) (fun _ t => Wp w m' t.heap) (oA w)) av.toArray s mc (6 * mc) (oA w)) rfl rfl ⟨⟨B.exec, B.bytes, hml, hown, fun w hw => hts w (List.mem_cons_of_mem _ hw)⟩, hx, B.notSynchronized, rfl, hst⟩
    (vx_table (x := y) B (hts _ List.mem_cons_self))
    (fun pc lv hd H locs ls hl hw hS => W.iret B.exec B.bytes B.returns (fun t ht hW => ⟨⟨x, (), rfl, rfl, by show Wp w m' t.heap; rw [ht]; exact hw⟩, hS.F ht⟩) (fun q hq => hS.2.2 q hq) hd B.notSynchronized)
  rw [lg_entry_eq]
  exact hG s.heap [] _ (lv_entry av hlen) hw va_S.rf
def MFw (y : MethodName) (Cn : String) (bytes : ByteArray) (maxL : Nat) (hh : List (Nat × Nat × Nat × Nat)) (n : Nat) : Prop :=
  Cond.static y ∈ TT ∧ Cond.initialized Cn ∈ TT ∧ Cond.codeWith y bytes maxL (some .int) hh ∈ TT ∧ y.cls = Cn ∧ y.cls ≠ "java/lang/invoke/MethodHandle" ∧ y.cls ≠ "java/lang/invoke/VarHandle" ∧ (parseMethodDescriptor y.desc).map (fun d => d.parameters.length) = some n
theorem gi_W {own Cn : String} {idx : Nat} {y : MethodName} {bytes : ByteArray} {maxL n : Nat} {hh : List (Nat × Nat × Nat × Nat)} (F : MFw y Cn bytes maxL hh n) (h1 : Cond.methodLink own idx y ∈ TT) : GoodIn TT (va_wsS own idx y (wsW y bytes maxL (some .int) hh)) := by
  intro w hw
  have h : w ∈ TT := by
    simp only [va_wsS, wsW, List.mem_append, List.mem_cons, List.not_mem_nil, or_false] at hw
    rcases hw with (rfl | rfl | rfl) | rfl | hw
    · exact h1
    · exact F.1
    · rw [F.2.2.2.1]; exact F.2.1
    · exact F.2.2.1
    · exact hw
  exact ⟨h, tt_good h⟩
/-- a callee that may throw, with the caller's handlers -/
def xh {α β : Type} (x : Option ((α ⊕ Nat) × Mem)) (K : α → Mem → Option β) (Hd : Nat → Mem → Option β) : Option β := x.bind (fun t => match t.1 with | .inl a => K a t.2 | .inr e => Hd e t.2)
theorem xh_some {α β : Type} {x : Option ((α ⊕ Nat) × Mem)} {K : α → Mem → Option β} {Hd : Nat → Mem → Option β} {o : β} (h : xh x K Hd = some o) : (∃ a m, x = some (.inl a, m) ∧ K a m = some o) ∨ ∃ e m, x = some (.inr e, m) ∧ Hd e m = some o := by
  match x, h with
  | some (.inl a, m), h => exact Or.inl ⟨a, m, rfl, h⟩
  | some (.inr e, m), h => exact Or.inr ⟨e, m, rfl, h⟩
theorem xh_of {α β : Type} {x : Option ((α ⊕ Nat) × Mem)} {K : α → Mem → Option β} {Hd : Nat → Mem → Option β} {a : α} {m : Mem} (h : x = some (.inl a, m)) : xh x K Hd = K a m := by
  rw [h]
  rfl
theorem xh_th {α β : Type} {x : Option ((α ⊕ Nat) × Mem)} {K : α → Mem → Option β} {Hd : Nat → Mem → Option β} {e : Nat} {m : Mem} (h : x = some (.inr e, m)) : xh x K Hd = Hd e m := by
  rw [h]
  rfl
section WRAP
variable {Γ : Gc} {cc : ByteArray} {nL cs pc : Nat} {own : String} {mem : Mem} {lv : List (Nat × Value)} {st : List Value} {y : MethodName} {Cn : String} {bytes : ByteArray} {maxL n fr' lo' fr lo mc mc' idx ci a N e : Nat} {ret : Option FieldType} {T : u_T} {As stk : List Value} {m' : Mem}
theorem gx_catch {hh hp hs : List (Nat × Nat × Nat × Nat)} {q0 : Nat × Nat × Nat × Nat} {rm : Room} (C : Cx Γ cc nL own rm) (ht : (gc Γ).exceptionTable.toList = tableOf hh) (hsp : hh = hp ++ q0 :: hs) (hpass : ∀ z ∈ hp, z.2.2.2 ≠ 0 ∧ ∃ nm : String, Cond.classLink own z.2.2.2 nm ∈ TT ∧ (exN e, nm) ∈ ncW)
    (hx : covers ⟨q0.1, q0.2.1, q0.2.2.1, q0.2.2.2⟩ pc = true) (h0 : q0.2.2.2 ≠ 0) (hlink : Cond.classLink own q0.2.2.2 (exN e) ∈ TT) (hcast : exN e ∈ castW) (k : ∀ q : Nat, G Γ nL cs mem q0.2.2.1 lv [.ref q]) : GX Γ nL cs mem pc lv e := by
  intro H locs ls rest q ce hl hw hS h9 hv hc
  refine vx_catch (own := own) (name := exN e) (E := exN e) C.1.2.2.2.1 (tableOf hp) ⟨q0.1, q0.2.1, q0.2.2.1, q0.2.2.2⟩ (tableOf hs) ?_ (fun z hz => ?_) hx h0 (C.1.2.2.2.2 _ hlink) (va_Nw.use rfl (C.2.1.2.2.2.2.2.2.2.2.2.1 _ hcast)) h9 hv hc (k q H locs ls hl hw hS)
  · rw [ht, hsp]
    simp [tableOf]
  · obtain ⟨z0, hz0, rfl⟩ := List.mem_map.mp hz
    obtain ⟨h1, nm, h2, h3⟩ := hpass z0 hz0
    exact Or.inr ⟨h1, nm, C.1.2.2.2.2 _ h2, C.2.1.2.2.2.2.2.2.2.2.2.2 _ h3⟩
theorem g_wI {x : Int32} {hh : List (Nat × Nat × Nat × Nat)} (C : Cx Γ cc nL own (rmK fr lo mc)) (hd : decode cc pc = .ok (.invokestatic idx, 3)) (F : MFw y Cn bytes maxL hh n) (h1 : Cond.methodLink own idx y ∈ TT) (hR : fr' + 1 ≤ fr ∧ 8 + (maxL + 11) + lo' ≤ lo) (hn : As.length = n) (hst : stk = As.reverse ++ st) (hW : (st.map fun v => v.category).sum ≤ 8) (hcs : cs + mc' ≤ mc) (hM : KW (gl Γ) y bytes maxL hh fr' lo' mc' (gw Γ) As mem x m') (k : G Γ nL (cs + mc') m' (pc + 3) lv (.int x :: st)) : G Γ nL cs mem pc lv stk := by
  intro H locs ls hl hw hS
  subst hst
  have e6 : 6 * (cs + mc') = 6 * cs + 6 * mc' := Nat.mul_add 6 cs mc'
  refine va_calli (vx_runSW (As := As) (rest := st) C.1 hM (vx_cwSW n C.1.2.2.2.2 (gi_W F h1) rfl rfl rfl F.2.2.2.2 ⟨by rw [C.2.2.2.1]; exact hR.1, by rw [C.2.2.2.1]; exact hR.2⟩) ⟨Wd.blind _, fun U hU hWm => ⟨rfl, by rw [hU]; exact hw, C.2.1.move hS hU hWm⟩⟩ rfl hn hl.1 rfl (lv_room hW) hd ⟨by rw [C.2.2.2.1]; exact hcs, by rw [C.2.2.2.1]; show 6 * cs + 6 * mc' ≤ 6 * mc; omega⟩) hS (fun q _ h => h) (fun q h => h) (fun r u t H1 locs1 ht hvm hpost hB hsz hkeep hS1 => ?_)
  subst hpost
  rw [ht] at hB
  rw [← e6]
  exact k H1 locs1 ls hl hB hS1
/-- the law's script -/
def HS (Γ : Gc) (b L : Nat) (xs : Nat → Int32) : Prop := va_X b L xs (gs Γ) (gs Γ).heap ∧ b < (gs Γ).heap.size ∧ ¬ oA (gw Γ) b
theorem g_sld {rm : Room} {b L : Nat} {xs : Nat → Int32} {i : Int32} (C : Cx Γ cc nL own rm) (S : HS Γ b L xs) (hd : decode cc pc = .ok (.iaload, 1)) (hi : inb i L = true) (k : G Γ nL cs mem (pc + 1) lv (.int (xs i.toNatClampNeg) :: st)) : G Γ nL cs mem pc lv (.int i :: .ref b :: st) := fun H locs ls hl hw hS => va_sld C.1.1 C.1.2.1 S.1 S.2.1 S.2.2 hS (inb_vp hi) hd (k H locs ls hl hw hS)
theorem g_slen {rm : Room} {b L : Nat} {xs : Nat → Int32} (C : Cx Γ cc nL own rm) (S : HS Γ b L xs) (hd : decode cc pc = .ok (.arraylength, 1)) (k : G Γ nL cs mem (pc + 1) lv (.int (Int32.ofNat L) :: st)) : G Γ nL cs mem pc lv (.ref b :: st) := fun H locs ls hl hw hS => va_slen C.1.1 C.1.2.1 S.1 S.2.1 S.2.2 hS hd (k H locs ls hl hw hS)
theorem g_xvI_h (C : Cx Γ cc nL own (rmK fr lo mc)) (hd : decode cc pc = .ok (.invokevirtual idx, 3)) (F : MFv y Cn bytes maxL ret n) (h1 : Cond.methodLink own idx y ∈ TT) (hc : vwCl[ci]? = some (Cn, T, N)) (hci : ci ≤ 10) (hR : fr' + 1 ≤ fr ∧ 8 + (maxL + 11) + lo' ≤ lo) (hn : As.length = n) (hst : stk = As.reverse ++ .ref (oa (gw Γ) a) :: st) (hW : (st.map fun v => v.category).sum ≤ 8) (hcs : cs + mc' ≤ mc) (ha : (kd a == ci) = true) (hM : XI (gl Γ) y bytes maxL ret fr' lo' mc' (gw Γ) (.ref (oa (gw Γ) a) :: As) mem (.inr e, m')) (kx : GX Γ nL (cs + mc') m' pc lv e) : G Γ nL cs mem pc lv stk := g_xvI C hd F h1 hc hci hR hn hst hW hcs ha hM (fun e9 he => by cases he; exact kx) (fun x9 hx => nomatch hx)
theorem g_xvD_h (C : Cx Γ cc nL own (rmK fr lo mc)) (hd : decode cc pc = .ok (.invokevirtual idx, 3)) (F : MFv y Cn bytes maxL ret n) (h1 : Cond.methodLink own idx y ∈ TT) (hc : vwCl[ci]? = some (Cn, T, N)) (hci : ci ≤ 10) (hR : fr' + 1 ≤ fr ∧ 8 + (maxL + 11) + lo' ≤ lo) (hn : As.length = n) (hst : stk = As.reverse ++ .ref (oa (gw Γ) a) :: st) (hW : (st.map fun v => v.category).sum ≤ 8) (hcs : cs + mc' ≤ mc) (ha : (kd a == ci) = true) (hM : XD (gl Γ) y bytes maxL ret fr' lo' mc' (gw Γ) (.ref (oa (gw Γ) a) :: As) mem (.inr e, m')) (kx : GX Γ nL (cs + mc') m' pc lv e) : G Γ nL cs mem pc lv stk := g_xvD C hd F h1 hc hci hR hn hst hW hcs ha hM (fun e9 he => by cases he; exact kx) (fun x9 hx => nomatch hx)
end WRAP
theorem sw34 {x : Int32} (c0 : ¬ x = (0 : Int32)) (c1 : ¬ x = (1 : Int32)) (c2 : ¬ x = (2 : Int32)) (c3 : ¬ x = (3 : Int32)) (c4 : ¬ x = (4 : Int32)) (c5 : ¬ x = (5 : Int32)) (c6 : ¬ x = (6 : Int32)) (c7 : ¬ x = (7 : Int32)) (c8 : ¬ x = (8 : Int32)) (c9 : ¬ x = (9 : Int32)) (c10 : ¬ x = (10 : Int32)) (c11 : ¬ x = (11 : Int32)) (c12 : ¬ x = (12 : Int32)) (c13 : ¬ x = (13 : Int32)) (c14 : ¬ x = (14 : Int32)) (c15 : ¬ x = (15 : Int32)) (c16 : ¬ x = (16 : Int32)) (c17 : ¬ x = (17 : Int32)) (c18 : ¬ x = (18 : Int32)) (c19 : ¬ x = (19 : Int32)) (c20 : ¬ x = (20 : Int32)) (c21 : ¬ x = (21 : Int32)) (c22 : ¬ x = (22 : Int32)) (c23 : ¬ x = (23 : Int32)) (c24 : ¬ x = (24 : Int32)) (c25 : ¬ x = (25 : Int32)) (c26 : ¬ x = (26 : Int32)) (c27 : ¬ x = (27 : Int32)) (c28 : ¬ x = (28 : Int32)) (c29 : ¬ x = (29 : Int32)) (c30 : ¬ x = (30 : Int32)) (c31 : ¬ x = (31 : Int32)) (c32 : ¬ x = (32 : Int32)) (c33 : ¬ x = (33 : Int32)) : x.toInt < (0 : Int) ∨ (33 : Int) < x.toInt := by
  have h0 := sw_n (n := 0) c0 (by decide)
  have h1 := sw_n (n := 1) c1 (by decide)
  have h2 := sw_n (n := 2) c2 (by decide)
  have h3 := sw_n (n := 3) c3 (by decide)
  have h4 := sw_n (n := 4) c4 (by decide)
  have h5 := sw_n (n := 5) c5 (by decide)
  have h6 := sw_n (n := 6) c6 (by decide)
  have h7 := sw_n (n := 7) c7 (by decide)
  have h8 := sw_n (n := 8) c8 (by decide)
  have h9 := sw_n (n := 9) c9 (by decide)
  have h10 := sw_n (n := 10) c10 (by decide)
  have h11 := sw_n (n := 11) c11 (by decide)
  have h12 := sw_n (n := 12) c12 (by decide)
  have h13 := sw_n (n := 13) c13 (by decide)
  have h14 := sw_n (n := 14) c14 (by decide)
  have h15 := sw_n (n := 15) c15 (by decide)
  have h16 := sw_n (n := 16) c16 (by decide)
  have h17 := sw_n (n := 17) c17 (by decide)
  have h18 := sw_n (n := 18) c18 (by decide)
  have h19 := sw_n (n := 19) c19 (by decide)
  have h20 := sw_n (n := 20) c20 (by decide)
  have h21 := sw_n (n := 21) c21 (by decide)
  have h22 := sw_n (n := 22) c22 (by decide)
  have h23 := sw_n (n := 23) c23 (by decide)
  have h24 := sw_n (n := 24) c24 (by decide)
  have h25 := sw_n (n := 25) c25 (by decide)
  have h26 := sw_n (n := 26) c26 (by decide)
  have h27 := sw_n (n := 27) c27 (by decide)
  have h28 := sw_n (n := 28) c28 (by decide)
  have h29 := sw_n (n := 29) c29 (by decide)
  have h30 := sw_n (n := 30) c30 (by decide)
  have h31 := sw_n (n := 31) c31 (by decide)
  have h32 := sw_n (n := 32) c32 (by decide)
  have h33 := sw_n (n := 33) c33 (by decide)
  omega
