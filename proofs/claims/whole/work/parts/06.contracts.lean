theorem KI_of {l : Launch} {y : MethodName} {bytes : ByteArray} {maxL fr lo : Nat} {w : Om} {av : List Value} {m m' : Mem} {x : Int32} (hst : l.stackTraces = false) (hy : plainName y.cls = true) (own : String) (ho : y.cls = own) (hlen : (lg_sl av).length ≤ maxL)
    (body : ∀ Γ : Gc, gw Γ = w → gl Γ = l → Cx Γ bytes maxL own (rmK fr lo 0) → RI Γ maxL bytes 0 x m' → G Γ maxL 0 m 0 (lv_args 0 av) []) : KI l y bytes maxL (some .int) fr lo w av m x m' := by
  refine Met.ofW (cc := bytes) (maxL := maxL) (ret := (some .int)) hy rfl ?_
  intro p e s m0 args below meth c s₁ B hml hv
  obtain ⟨rfl, hw, hx⟩ := hv
  have hts := atoms_spec (ws := wsK y bytes maxL (some .int)) B.pre
  have hown := findClass_of_methodNamed B.named
  rw [ho] at hown
  have hG := body (p, l, e, (headSpec (wsK y bytes maxL (some .int)) (rmK fr lo 0)).room, s, m0, av.toArray, below, meth, c, w, MQ below (va_Qi (fun r (_ : Unit) => r = x) (fun _ t => Wp w m' t.heap) (oA w)) av.toArray s 0 0 (oA w)) rfl rfl ⟨⟨B.exec, B.bytes, hml, hown, fun w hw => hts w (List.mem_cons_of_mem _ hw)⟩, hx, B.notSynchronized, rfl, hst⟩
    (fun pc lv hd H locs ls hl hw hS => W.iret B.exec B.bytes B.returns (fun t ht hW => ⟨⟨x, (), rfl, rfl, by show Wp w m' t.heap; rw [ht]; exact hw⟩, hS.F ht⟩) (fun q hq => hS.2.2 q hq) hd B.notSynchronized)
  rw [lg_entry_eq]
  exact hG s.heap [] _ (lv_entry av hlen) hw va_S.rf
theorem KZ_of {l : Launch} {y : MethodName} {bytes : ByteArray} {maxL fr lo : Nat} {w : Om} {av : List Value} {m m' : Mem} {x : Int32} (hst : l.stackTraces = false) (hy : plainName y.cls = true) (own : String) (ho : y.cls = own) (hlen : (lg_sl av).length ≤ maxL)
    (body : ∀ Γ : Gc, gw Γ = w → gl Γ = l → Cx Γ bytes maxL own (rmK fr lo 0) → RZ Γ maxL bytes 0 x m' → G Γ maxL 0 m 0 (lv_args 0 av) []) : KI l y bytes maxL (some .boolean) fr lo w av m x m' := by
  refine Met.ofW (cc := bytes) (maxL := maxL) (ret := (some .boolean)) hy rfl ?_
  intro p e s m0 args below meth c s₁ B hml hv
  obtain ⟨rfl, hw, hx⟩ := hv
  have hts := atoms_spec (ws := wsK y bytes maxL (some .boolean)) B.pre
  have hown := findClass_of_methodNamed B.named
  rw [ho] at hown
  have hG := body (p, l, e, (headSpec (wsK y bytes maxL (some .boolean)) (rmK fr lo 0)).room, s, m0, av.toArray, below, meth, c, w, MQ below (va_Qi (fun r (_ : Unit) => r = x) (fun _ t => Wp w m' t.heap) (oA w)) av.toArray s 0 0 (oA w)) rfl rfl ⟨⟨B.exec, B.bytes, hml, hown, fun w hw => hts w (List.mem_cons_of_mem _ hw)⟩, hx, B.notSynchronized, rfl, hst⟩
    (fun pc lv hb9 hd H locs ls hl hw hS => W.zret B.exec B.bytes B.returns (isB_n hb9) (fun t ht hW => ⟨⟨x, (), rfl, rfl, by show Wp w m' t.heap; rw [ht]; exact hw⟩, hS.F ht⟩) (fun q hq => hS.2.2 q hq) hd B.notSynchronized)
  rw [lg_entry_eq]
  exact hG s.heap [] _ (lv_entry av hlen) hw va_S.rf
theorem KV_of {l : Launch} {y : MethodName} {bytes : ByteArray} {maxL fr lo : Nat} {w : Om} {av : List Value} {m m' : Mem} (hst : l.stackTraces = false) (hy : plainName y.cls = true) (own : String) (ho : y.cls = own) (hlen : (lg_sl av).length ≤ maxL)
    (body : ∀ Γ : Gc, gw Γ = w → gl Γ = l → Cx Γ bytes maxL own (rmK fr lo 0) → RV Γ maxL bytes 0 m' → G Γ maxL 0 m 0 (lv_args 0 av) []) : KV l y bytes maxL none fr lo w av m m' := by
  refine Met.ofW (cc := bytes) (maxL := maxL) (ret := none) hy rfl ?_
  intro p e s m0 args below meth c s₁ B hml hv
  obtain ⟨rfl, hw, hx⟩ := hv
  have hts := atoms_spec (ws := wsK y bytes maxL none) B.pre
  have hown := findClass_of_methodNamed B.named
  rw [ho] at hown
  have hG := body (p, l, e, (headSpec (wsK y bytes maxL none) (rmK fr lo 0)).room, s, m0, av.toArray, below, meth, c, w, MQ below (va_Qv (fun (_ : Unit) => True) (fun _ t => Wp w m' t.heap) (oA w)) av.toArray s 0 0 (oA w)) rfl rfl ⟨⟨B.exec, B.bytes, hml, hown, fun w hw => hts w (List.mem_cons_of_mem _ hw)⟩, hx, B.notSynchronized, rfl, hst⟩
    (fun pc lv hd H locs ls hl hw hS => W.vret B.exec B.bytes B.returns (fun t ht hW => ⟨⟨(), rfl, trivial, by show Wp w m' t.heap; rw [ht]; exact hw⟩, hS.F ht⟩) (fun q hq => hS.2.2 q hq) hd B.notSynchronized)
  rw [lg_entry_eq]
  exact hG s.heap [] _ (lv_entry av hlen) hw va_S.rf
theorem KL_of {l : Launch} {y : MethodName} {bytes : ByteArray} {maxL fr lo : Nat} {w : Om} {av : List Value} {m m' : Mem} {x : Int64} (hst : l.stackTraces = false) (hy : plainName y.cls = true) (own : String) (ho : y.cls = own) (hlen : (lg_sl av).length ≤ maxL)
    (body : ∀ Γ : Gc, gw Γ = w → gl Γ = l → Cx Γ bytes maxL own (rmK fr lo 0) → RL' Γ maxL bytes 0 x m' → G Γ maxL 0 m 0 (lv_args 0 av) []) : KL l y bytes maxL (some .long) fr lo w av m x m' := by
  refine Met.ofW (cc := bytes) (maxL := maxL) (ret := (some .long)) hy rfl ?_
  intro p e s m0 args below meth c s₁ B hml hv
  obtain ⟨rfl, hw, hx⟩ := hv
  have hts := atoms_spec (ws := wsK y bytes maxL (some .long)) B.pre
  have hown := findClass_of_methodNamed B.named
  rw [ho] at hown
  have hG := body (p, l, e, (headSpec (wsK y bytes maxL (some .long)) (rmK fr lo 0)).room, s, m0, av.toArray, below, meth, c, w, MQ below (va_Ql (fun r (_ : Unit) => r = x) (fun _ t => Wp w m' t.heap) (oA w)) av.toArray s 0 0 (oA w)) rfl rfl ⟨⟨B.exec, B.bytes, hml, hown, fun w hw => hts w (List.mem_cons_of_mem _ hw)⟩, hx, B.notSynchronized, rfl, hst⟩
    (fun pc lv hd H locs ls hl hw hS => W.lret B.exec B.bytes B.returns (fun t ht hW => ⟨⟨x, (), rfl, rfl, by show Wp w m' t.heap; rw [ht]; exact hw⟩, hS.F ht⟩) (fun q hq => hS.2.2 q hq) hd B.notSynchronized)
  rw [lg_entry_eq]
  exact hG s.heap [] _ (lv_entry av hlen) hw va_S.rf
theorem KD_of {l : Launch} {y : MethodName} {bytes : ByteArray} {maxL fr lo : Nat} {w : Om} {av : List Value} {m m' : Mem} {x : UInt64} (hst : l.stackTraces = false) (hy : plainName y.cls = true) (own : String) (ho : y.cls = own) (hlen : (lg_sl av).length ≤ maxL)
    (body : ∀ Γ : Gc, gw Γ = w → gl Γ = l → Cx Γ bytes maxL own (rmK fr lo 0) → RD Γ maxL bytes 0 x m' → G Γ maxL 0 m 0 (lv_args 0 av) []) : KD l y bytes maxL (some .double) fr lo w av m x m' := by
  refine Met.ofW (cc := bytes) (maxL := maxL) (ret := (some .double)) hy rfl ?_
  intro p e s m0 args below meth c s₁ B hml hv
  obtain ⟨rfl, hw, hx⟩ := hv
  have hts := atoms_spec (ws := wsK y bytes maxL (some .double)) B.pre
  have hown := findClass_of_methodNamed B.named
  rw [ho] at hown
  have hG := body (p, l, e, (headSpec (wsK y bytes maxL (some .double)) (rmK fr lo 0)).room, s, m0, av.toArray, below, meth, c, w, MQ below (va_Qd (fun r (_ : Unit) => r = x) (fun _ t => Wp w m' t.heap) (oA w)) av.toArray s 0 0 (oA w)) rfl rfl ⟨⟨B.exec, B.bytes, hml, hown, fun w hw => hts w (List.mem_cons_of_mem _ hw)⟩, hx, B.notSynchronized, rfl, hst⟩
    (fun pc lv hd H locs ls hl hw hS => W.dret B.exec B.bytes B.returns (fun t ht hW => ⟨⟨x, (), rfl, rfl, by show Wp w m' t.heap; rw [ht]; exact hw⟩, hS.F ht⟩) (fun q hq => hS.2.2 q hq) hd B.notSynchronized)
  rw [lg_entry_eq]
  exact hG s.heap [] _ (lv_entry av hlen) hw va_S.rf
theorem KIF_of {l : Launch} {y : MethodName} {bytes : ByteArray} {maxL fr lo : Nat} {w : Om} {av : List Value} {m m' : Mem} {x : Int32} (hst : l.stackTraces = false) (hy : plainFor y = true) (own : String) (ho : y.cls = own) (hlen : (lg_sl av).length ≤ maxL)
    (body : ∀ Γ : Gc, gw Γ = w → gl Γ = l → Cx Γ bytes maxL own (rmK fr lo 0) → RI Γ maxL bytes 0 x m' → G Γ maxL 0 m 0 (lv_args 0 av) []) : KI l y bytes maxL (some .int) fr lo w av m x m' := by
  refine va_MetF (cc := bytes) (maxL := maxL) (ret := (some .int)) hy rfl ?_
  intro p e s m0 args below meth c s₁ B hml hv
  obtain ⟨rfl, hw, hx⟩ := hv
  have hts := atoms_spec (ws := wsK y bytes maxL (some .int)) B.pre
  have hown := findClass_of_methodNamed B.named
  rw [ho] at hown
  have hG := body (p, l, e, (headSpec (wsK y bytes maxL (some .int)) (rmK fr lo 0)).room, s, m0, av.toArray, below, meth, c, w, MQ below (va_Qi (fun r (_ : Unit) => r = x) (fun _ t => Wp w m' t.heap) (oA w)) av.toArray s 0 0 (oA w)) rfl rfl ⟨⟨B.exec, B.bytes, hml, hown, fun w hw => hts w (List.mem_cons_of_mem _ hw)⟩, hx, B.notSynchronized, rfl, hst⟩
    (fun pc lv hd H locs ls hl hw hS => W.iret B.exec B.bytes B.returns (fun t ht hW => ⟨⟨x, (), rfl, rfl, by show Wp w m' t.heap; rw [ht]; exact hw⟩, hS.F ht⟩) (fun q hq => hS.2.2 q hq) hd B.notSynchronized)
  rw [lg_entry_eq]
  exact hG s.heap [] _ (lv_entry av hlen) hw va_S.rf
theorem KVF_of {l : Launch} {y : MethodName} {bytes : ByteArray} {maxL fr lo : Nat} {w : Om} {av : List Value} {m m' : Mem} (hst : l.stackTraces = false) (hy : plainFor y = true) (own : String) (ho : y.cls = own) (hlen : (lg_sl av).length ≤ maxL)
    (body : ∀ Γ : Gc, gw Γ = w → gl Γ = l → Cx Γ bytes maxL own (rmK fr lo 0) → RV Γ maxL bytes 0 m' → G Γ maxL 0 m 0 (lv_args 0 av) []) : KV l y bytes maxL none fr lo w av m m' := by
  refine va_MetF (cc := bytes) (maxL := maxL) (ret := none) hy rfl ?_
  intro p e s m0 args below meth c s₁ B hml hv
  obtain ⟨rfl, hw, hx⟩ := hv
  have hts := atoms_spec (ws := wsK y bytes maxL none) B.pre
  have hown := findClass_of_methodNamed B.named
  rw [ho] at hown
  have hG := body (p, l, e, (headSpec (wsK y bytes maxL none) (rmK fr lo 0)).room, s, m0, av.toArray, below, meth, c, w, MQ below (va_Qv (fun (_ : Unit) => True) (fun _ t => Wp w m' t.heap) (oA w)) av.toArray s 0 0 (oA w)) rfl rfl ⟨⟨B.exec, B.bytes, hml, hown, fun w hw => hts w (List.mem_cons_of_mem _ hw)⟩, hx, B.notSynchronized, rfl, hst⟩
    (fun pc lv hd H locs ls hl hw hS => W.vret B.exec B.bytes B.returns (fun t ht hW => ⟨⟨(), rfl, trivial, by show Wp w m' t.heap; rw [ht]; exact hw⟩, hS.F ht⟩) (fun q hq => hS.2.2 q hq) hd B.notSynchronized)
  rw [lg_entry_eq]
  exact hG s.heap [] _ (lv_entry av hlen) hw va_S.rf
theorem gx_out {Γ : Gc} {cc : ByteArray} {nL cs pc fr lo mc e : Nat} {own : String} {mem : Mem} {lv : List (Nat × Value)} (C : Cx Γ cc nL own (rmK fr lo mc)) (hX : RX Γ e mem) (hcs : cs ≤ mc) : GX Γ nL cs mem pc lv e := by
  intro H locs ls rest q ce hl hw hS h9 hv hc
  obtain ⟨Qc, XC, mc', hQ, hc1, hc2, htab, hx⟩ := hX
  have hm : mc' = mc := by rw [← hc1, C.2.2.2.1]; rfl
  subst hm
  rw [hQ]
  exact vx_out (fun x hx => (htab x hx).elim) C.2.2.1 h9 hv hc (fun t ht hA => hx t (by rw [ht]; exact hw) (hS.F ht)) (fun z hz => hS.2.2 z hz) hcs (Nat.mul_le_mul_left 6 hcs)
def nmX : List String := ["java/lang/RuntimeException", "java/lang/Exception"]
/-- what the tables say of the making of an exception -/
def TF (own : String) (ik ic e : Nat) : Prop := Bundle.fit (exN e) = true ∧ Cond.classLink own ik (exN e) ∈ TT ∧ Cond.initialized (exN e) ∈ TT ∧ (∀ w ∈ (vx_atS own ic (exN e) nmX).filter goodWord, w ∈ TT) ∧ (∀ w ∈ (vx_atS own ic (exN e) nmX).filter (fun w => !goodWord w), w ∈ dclW.map (fun q => Cond.declares q) ++ castW.map (fun q => Cond.castable q q)) ∧ ∀ w ∈ Cond.classLink own ik (exN e) :: Cond.initialized (exN e) :: vx_atS own ic (exN e) nmX, vx_ot w = true
theorem g_throw {Γ : Gc} {cc : ByteArray} {nL cs pc fr lo mc e ik is ic n : Nat} {tx own : String} {mem : Mem} {lv : List (Nat × Value)} {st : List Value} (C : Cx Γ cc nL own (rmK fr lo mc)) (F : TF own ik ic e) (d0 : decode cc pc = .ok (.new ik, 3)) (d3 : decode cc (pc + 3) = .ok (.dup, 1)) (d4 : decode cc (pc + 4) = .ok (.ldc is, 2)) (d6 : decode cc (pc + 6) = .ok (.invokespecial ic, 3)) (d9 : decode cc (pc + 9) = .ok (.athrow, 1)) (hstr : (own, is, tx, n) ∈ strW) (hfr : 5 < fr) (hlo : (st.map fun v => v.category).sum + 82 ≤ lo) (hcs : cs + 1 ≤ mc) (hX : RX Γ e mem) : G Γ nL cs mem pc lv st := by
  intro H locs ls hl hw hS
  obtain ⟨Qc, XC, mc', hQ, hc1, hc2, htab, hx⟩ := hX
  have hm : mc' = mc := by rw [← hc1, C.2.2.2.1]; rfl
  subst hm
  rw [hQ]
  obtain ⟨f1, f2, f3, f4, f5, f6⟩ := F
  have hat : ∀ w ∈ vx_atS own ic (exN e) nmX, w.before (gar Γ) (gs Γ) = true := by
    refine vx_hat (fun w hw => C.1.2.2.2.2 _ (f4 w hw)) f5 (fun w hw => ?_)
    rcases List.mem_append.mp hw with h | h
    · obtain ⟨q, hq, rfl⟩ := List.mem_map.mp h
      exact va_Nw.use rfl (C.2.1.2.2.2.2.2.2.2.2.1 q hq)
    · obtain ⟨q, hq, rfl⟩ := List.mem_map.mp h
      exact va_Nw.use rfl (C.2.1.2.2.2.2.2.2.2.2.2.1 q hq)
  refine vx_throwS C.1.1 C.1.2.1 C.2.2.2.2 C.1.2.2.2.1 f1 (fun q hq => ?_) (C.1.2.2.2.2 _ f2) (C.1.2.2.2.2 _ f3) (C.2.1.2.2.2.2.1 _ hstr) hat f6 C.2.1.2.2.1 C.2.1.2.2.2.1 hS (hl.1.trans C.1.2.2.1.symm) d0 d3 d4 d6 d9 (fun x hx => (htab x hx).elim) (by rw [C.2.2.2.1]; exact hfr) (by rw [C.2.2.2.1]; exact hlo) (by rw [C.2.2.2.1]; exact hcs) (by rw [C.2.2.2.1]; show 6 * cs + 6 ≤ 6 * mc'; omega) C.2.2.1 (fun t hA hsz hk => ?_) (fun z hz => hS.2.2 z hz) hcs (by omega)
  · simp only [nmX, List.mem_cons, List.not_mem_nil, or_false] at hq
    rcases hq with rfl | rfl <;> decide
  · refine hx t ⟨va_P.kept hw.1 (fun k q hq => hk _ (va_at.lt (hw.1 k q hq))), hw.2⟩ ⟨Nat.le_trans hS.1 hsz, fun q hq hA9 => ?_⟩
    rw [hk q (Nat.lt_of_lt_of_le hq hS.1)]
    exact hS.2.1 q hq hA9
theorem g_throwW {Γ : Gc} {cc : ByteArray} {nL cs pc fr lo mc e ik is ic n : Nat} {tx own : String} {mem : Mem} {lv : List (Nat × Value)} {st : List Value} (C : Cx Γ cc nL own (rmK fr lo mc)) (F : TF own ik ic e) (d0 : decode cc pc = .ok (.new ik, 3)) (d3 : decode cc (pc + 3) = .ok (.dup, 1)) (d4 : decode cc (pc + 4) = .ok (.ldc_w is, 3)) (d6 : decode cc (pc + 7) = .ok (.invokespecial ic, 3)) (d9 : decode cc (pc + 10) = .ok (.athrow, 1)) (hstr : (own, is, tx, n) ∈ strW) (hfr : 5 < fr) (hlo : (st.map fun v => v.category).sum + 82 ≤ lo) (hcs : cs + 1 ≤ mc) (hX : RX Γ e mem) : G Γ nL cs mem pc lv st := by
  intro H locs ls hl hw hS
  obtain ⟨Qc, XC, mc', hQ, hc1, hc2, htab, hx⟩ := hX
  have hm : mc' = mc := by rw [← hc1, C.2.2.2.1]; rfl
  subst hm
  rw [hQ]
  obtain ⟨f1, f2, f3, f4, f5, f6⟩ := F
  have hat : ∀ w ∈ vx_atS own ic (exN e) nmX, w.before (gar Γ) (gs Γ) = true := by
    refine vx_hat (fun w hw => C.1.2.2.2.2 _ (f4 w hw)) f5 (fun w hw => ?_)
    rcases List.mem_append.mp hw with h | h
    · obtain ⟨q, hq, rfl⟩ := List.mem_map.mp h
      exact va_Nw.use rfl (C.2.1.2.2.2.2.2.2.2.2.1 q hq)
    · obtain ⟨q, hq, rfl⟩ := List.mem_map.mp h
      exact va_Nw.use rfl (C.2.1.2.2.2.2.2.2.2.2.2.1 q hq)
  refine vx_throwSW C.1.1 C.1.2.1 C.2.2.2.2 C.1.2.2.2.1 f1 (fun q hq => ?_) (C.1.2.2.2.2 _ f2) (C.1.2.2.2.2 _ f3) (C.2.1.2.2.2.2.1 _ hstr) hat f6 C.2.1.2.2.1 C.2.1.2.2.2.1 hS (hl.1.trans C.1.2.2.1.symm) d0 d3 d4 d6 d9 (fun x hx => (htab x hx).elim) (by rw [C.2.2.2.1]; exact hfr) (by rw [C.2.2.2.1]; exact hlo) (by rw [C.2.2.2.1]; exact hcs) (by rw [C.2.2.2.1]; show 6 * cs + 6 ≤ 6 * mc'; omega) C.2.2.1 (fun t hA hsz hk => ?_) (fun z hz => hS.2.2 z hz) hcs (by omega)
  · simp only [nmX, List.mem_cons, List.not_mem_nil, or_false] at hq
    rcases hq with rfl | rfl <;> decide
  · refine hx t ⟨va_P.kept hw.1 (fun k q hq => hk _ (va_at.lt (hw.1 k q hq))), hw.2⟩ ⟨Nat.le_trans hS.1 hsz, fun q hq hA9 => ?_⟩
    rw [hk q (Nat.lt_of_lt_of_le hq hS.1)]
    exact hS.2.1 q hq hA9
/-- a result of a body that may throw -/
def EI (Γ : Gc) (nL : Nat) (cc : ByteArray) (mc : Nat) (o : (Int32 ⊕ Nat) × Mem) : Prop := (∀ v, o.1 = .inl v → ∀ cs, cs ≤ mc → RI Γ nL cc cs v o.2) ∧ ∀ e, o.1 = .inr e → RX Γ e o.2
theorem XI_of {l : Launch} {y : MethodName} {bytes : ByteArray} {maxL fr lo mc : Nat} {w : Om} {av : List Value} {m : Mem} {o : (Int32 ⊕ Nat) × Mem} (hst : l.stackTraces = false) (hy : plainName y.cls = true) (own : String) (ho : y.cls = own) (hlen : (lg_sl av).length ≤ maxL)
    (body : ∀ Γ : Gc, gw Γ = w → gl Γ = l → Cx Γ bytes maxL own (rmK fr lo mc) → EI Γ maxL bytes mc o → G Γ maxL 0 m 0 (lv_args 0 av) []) : XI l y bytes maxL (some .int) fr lo mc w av m o := by
  refine vx_ofW (cc := bytes) (maxL := maxL) (ret := (some .int)) hy rfl ?_
  intro p e s m0 args below meth c s₁ B hml htab hv
  obtain ⟨rfl, hw, hx⟩ := hv
  have hts := atoms_spec (ws := wsK y bytes maxL (some .int)) B.pre
  have hown := findClass_of_methodNamed B.named
  rw [ho] at hown
  have hG := body (p, l, e, (headSpec (wsK y bytes maxL (some .int)) (rmK fr lo mc)).room, s, m0, av.toArray, below, meth, c, w, vx_MQ below (va_Qi (fun r (_ : Unit) => o.1 = .inl r) (fun _ t => Wp w o.2 t.heap) (oA w)) (xC w (sE o.1) o.2) av.toArray s mc (6 * mc) (oA w)) rfl rfl ⟨⟨B.exec, B.bytes, hml, hown, fun w hw => hts w (List.mem_cons_of_mem _ hw)⟩, hx, B.notSynchronized, rfl, hst⟩
    ⟨fun v ho9 cs hcs pc lv hd H locs ls hl hw hS => W.widen hcs (Nat.mul_le_mul_left 6 hcs) (vx_ret (W.iret B.exec B.bytes B.returns (fun t ht hW => ⟨⟨v, (), rfl, ho9, by show Wp w o.2 t.heap; rw [ht]; exact hw⟩, hS.F ht⟩) (fun q hq => hS.2.2 q hq) hd B.notSynchronized)),
     fun e ho9 => ⟨_, _, mc, rfl, rfl, rfl, htab, fun t hw hF => ⟨e, by rw [ho9]; rfl, ⟨rfl, hw⟩, hF⟩⟩⟩
  rw [lg_entry_eq]
  exact hG s.heap [] _ (lv_entry av hlen) hw va_S.rf
/-- a result of a body that may throw -/
def EZ (Γ : Gc) (nL : Nat) (cc : ByteArray) (mc : Nat) (o : (Int32 ⊕ Nat) × Mem) : Prop := (∀ v, o.1 = .inl v → ∀ cs, cs ≤ mc → RZ Γ nL cc cs v o.2) ∧ ∀ e, o.1 = .inr e → RX Γ e o.2
theorem XZ_of {l : Launch} {y : MethodName} {bytes : ByteArray} {maxL fr lo mc : Nat} {w : Om} {av : List Value} {m : Mem} {o : (Int32 ⊕ Nat) × Mem} (hst : l.stackTraces = false) (hy : plainName y.cls = true) (own : String) (ho : y.cls = own) (hlen : (lg_sl av).length ≤ maxL)
    (body : ∀ Γ : Gc, gw Γ = w → gl Γ = l → Cx Γ bytes maxL own (rmK fr lo mc) → EZ Γ maxL bytes mc o → G Γ maxL 0 m 0 (lv_args 0 av) []) : XI l y bytes maxL (some .boolean) fr lo mc w av m o := by
  refine vx_ofW (cc := bytes) (maxL := maxL) (ret := (some .boolean)) hy rfl ?_
  intro p e s m0 args below meth c s₁ B hml htab hv
  obtain ⟨rfl, hw, hx⟩ := hv
  have hts := atoms_spec (ws := wsK y bytes maxL (some .boolean)) B.pre
  have hown := findClass_of_methodNamed B.named
  rw [ho] at hown
  have hG := body (p, l, e, (headSpec (wsK y bytes maxL (some .boolean)) (rmK fr lo mc)).room, s, m0, av.toArray, below, meth, c, w, vx_MQ below (va_Qi (fun r (_ : Unit) => o.1 = .inl r) (fun _ t => Wp w o.2 t.heap) (oA w)) (xC w (sE o.1) o.2) av.toArray s mc (6 * mc) (oA w)) rfl rfl ⟨⟨B.exec, B.bytes, hml, hown, fun w hw => hts w (List.mem_cons_of_mem _ hw)⟩, hx, B.notSynchronized, rfl, hst⟩
    ⟨fun v ho9 cs hcs pc lv hb9 hd H locs ls hl hw hS => W.widen hcs (Nat.mul_le_mul_left 6 hcs) (vx_ret (W.zret B.exec B.bytes B.returns (isB_n hb9) (fun t ht hW => ⟨⟨v, (), rfl, ho9, by show Wp w o.2 t.heap; rw [ht]; exact hw⟩, hS.F ht⟩) (fun q hq => hS.2.2 q hq) hd B.notSynchronized)),
     fun e ho9 => ⟨_, _, mc, rfl, rfl, rfl, htab, fun t hw hF => ⟨e, by rw [ho9]; rfl, ⟨rfl, hw⟩, hF⟩⟩⟩
  rw [lg_entry_eq]
  exact hG s.heap [] _ (lv_entry av hlen) hw va_S.rf
/-- a result of a body that may throw -/
def EV (Γ : Gc) (nL : Nat) (cc : ByteArray) (mc : Nat) (o : (Unit ⊕ Nat) × Mem) : Prop := (∀ v : Unit, o.1 = .inl v → ∀ cs, cs ≤ mc → RV Γ nL cc cs o.2) ∧ ∀ e, o.1 = .inr e → RX Γ e o.2
theorem XV_of {l : Launch} {y : MethodName} {bytes : ByteArray} {maxL fr lo mc : Nat} {w : Om} {av : List Value} {m : Mem} {o : (Unit ⊕ Nat) × Mem} (hst : l.stackTraces = false) (hy : plainName y.cls = true) (own : String) (ho : y.cls = own) (hlen : (lg_sl av).length ≤ maxL)
    (body : ∀ Γ : Gc, gw Γ = w → gl Γ = l → Cx Γ bytes maxL own (rmK fr lo mc) → EV Γ maxL bytes mc o → G Γ maxL 0 m 0 (lv_args 0 av) []) : XV l y bytes maxL none fr lo mc w av m o := by
  refine vx_ofW (cc := bytes) (maxL := maxL) (ret := none) hy rfl ?_
  intro p e s m0 args below meth c s₁ B hml htab hv
  obtain ⟨rfl, hw, hx⟩ := hv
  have hts := atoms_spec (ws := wsK y bytes maxL none) B.pre
  have hown := findClass_of_methodNamed B.named
  rw [ho] at hown
  have hG := body (p, l, e, (headSpec (wsK y bytes maxL none) (rmK fr lo mc)).room, s, m0, av.toArray, below, meth, c, w, vx_MQ below (va_Qv (fun (_ : Unit) => o.1 = .inl ()) (fun _ t => Wp w o.2 t.heap) (oA w)) (xC w (sE o.1) o.2) av.toArray s mc (6 * mc) (oA w)) rfl rfl ⟨⟨B.exec, B.bytes, hml, hown, fun w hw => hts w (List.mem_cons_of_mem _ hw)⟩, hx, B.notSynchronized, rfl, hst⟩
    ⟨fun v ho9 cs hcs pc lv hd H locs ls hl hw hS => W.widen hcs (Nat.mul_le_mul_left 6 hcs) (vx_ret (W.vret B.exec B.bytes B.returns (fun t ht hW => ⟨⟨(), rfl, ho9, by show Wp w o.2 t.heap; rw [ht]; exact hw⟩, hS.F ht⟩) (fun q hq => hS.2.2 q hq) hd B.notSynchronized)),
     fun e ho9 => ⟨_, _, mc, rfl, rfl, rfl, htab, fun t hw hF => ⟨e, by rw [ho9]; rfl, ⟨rfl, hw⟩, hF⟩⟩⟩
  rw [lg_entry_eq]
  exact hG s.heap [] _ (lv_entry av hlen) hw va_S.rf
/-- a result of a body that may throw -/
def ED (Γ : Gc) (nL : Nat) (cc : ByteArray) (mc : Nat) (o : (UInt64 ⊕ Nat) × Mem) : Prop := (∀ v, o.1 = .inl v → ∀ cs, cs ≤ mc → RD Γ nL cc cs v o.2) ∧ ∀ e, o.1 = .inr e → RX Γ e o.2
theorem XD_of {l : Launch} {y : MethodName} {bytes : ByteArray} {maxL fr lo mc : Nat} {w : Om} {av : List Value} {m : Mem} {o : (UInt64 ⊕ Nat) × Mem} (hst : l.stackTraces = false) (hy : plainName y.cls = true) (own : String) (ho : y.cls = own) (hlen : (lg_sl av).length ≤ maxL)
    (body : ∀ Γ : Gc, gw Γ = w → gl Γ = l → Cx Γ bytes maxL own (rmK fr lo mc) → ED Γ maxL bytes mc o → G Γ maxL 0 m 0 (lv_args 0 av) []) : XD l y bytes maxL (some .double) fr lo mc w av m o := by
  refine vx_ofW (cc := bytes) (maxL := maxL) (ret := (some .double)) hy rfl ?_
  intro p e s m0 args below meth c s₁ B hml htab hv
  obtain ⟨rfl, hw, hx⟩ := hv
  have hts := atoms_spec (ws := wsK y bytes maxL (some .double)) B.pre
  have hown := findClass_of_methodNamed B.named
  rw [ho] at hown
  have hG := body (p, l, e, (headSpec (wsK y bytes maxL (some .double)) (rmK fr lo mc)).room, s, m0, av.toArray, below, meth, c, w, vx_MQ below (va_Qd (fun r (_ : Unit) => o.1 = .inl r) (fun _ t => Wp w o.2 t.heap) (oA w)) (xC w (sE o.1) o.2) av.toArray s mc (6 * mc) (oA w)) rfl rfl ⟨⟨B.exec, B.bytes, hml, hown, fun w hw => hts w (List.mem_cons_of_mem _ hw)⟩, hx, B.notSynchronized, rfl, hst⟩
    ⟨fun v ho9 cs hcs pc lv hd H locs ls hl hw hS => W.widen hcs (Nat.mul_le_mul_left 6 hcs) (vx_ret (W.dret B.exec B.bytes B.returns (fun t ht hW => ⟨⟨v, (), rfl, ho9, by show Wp w o.2 t.heap; rw [ht]; exact hw⟩, hS.F ht⟩) (fun q hq => hS.2.2 q hq) hd B.notSynchronized)),
     fun e ho9 => ⟨_, _, mc, rfl, rfl, rfl, htab, fun t hw hF => ⟨e, by rw [ho9]; rfl, ⟨rfl, hw⟩, hF⟩⟩⟩
  rw [lg_entry_eq]
  exact hG s.heap [] _ (lv_entry av hlen) hw va_S.rf
