/-! the JDK's own methods that the class reaches: length() and charAt() of the ten words -/
theorem kj_0 : Cond.instanceMethod yJ0_length_8abf5 ∈ TT := tt 645 (by decide +kernel) (by decide +kernel)
theorem kj_1 : Cond.selects RJ0 yJ0_length_8abf5 yJ0_length_8abf5 ∈ TT := tt 646 (by decide +kernel) (by decide +kernel)
theorem kj_2 : Cond.initialized RJ0 ∈ TT := tt 110 (by decide +kernel) (by decide +kernel)
theorem kj_3 : Cond.code yJ0_length_8abf5 cJ0_length_8abf5 1 (some .int) ∈ TT := tt 647 (by decide +kernel) (by decide +kernel)
theorem kj_4 : Cond.instanceMethod yJ0_charAt_5068e ∈ TT := tt 655 (by decide +kernel) (by decide +kernel)
theorem kj_5 : Cond.selects RJ0 yJ0_charAt_5068e yJ0_charAt_5068e ∈ TT := tt 656 (by decide +kernel) (by decide +kernel)
theorem kj_6 : Cond.code yJ0_charAt_5068e cJ0_charAt_5068e 2 (some .char) ∈ TT := tt 657 (by decide +kernel) (by decide +kernel)
theorem kj_7 : Cond.instanceMethod yJ0_coder_7d493 ∈ TT := tt 649 (by decide +kernel) (by decide +kernel)
theorem kj_8 : Cond.selects RJ0 yJ0_coder_7d493 yJ0_coder_7d493 ∈ TT := tt 650 (by decide +kernel) (by decide +kernel)
theorem kj_9 : Cond.code yJ0_coder_7d493 cJ0_coder_7d493 1 (some .byte) ∈ TT := tt 651 (by decide +kernel) (by decide +kernel)
theorem kj_10 : Cond.instanceMethod yJ0_isLatin1_aae02 ∈ TT := tt 659 (by decide +kernel) (by decide +kernel)
theorem kj_11 : Cond.selects RJ0 yJ0_isLatin1_aae02 yJ0_isLatin1_aae02 ∈ TT := tt 660 (by decide +kernel) (by decide +kernel)
theorem kj_12 : Cond.code yJ0_isLatin1_aae02 cJ0_isLatin1_aae02 1 (some .boolean) ∈ TT := tt 661 (by decide +kernel) (by decide +kernel)
theorem kj_13 : Cond.static yJ0_checkIndex_df160 ∈ TT := tt 666 (by decide +kernel) (by decide +kernel)
theorem kj_14 : Cond.code yJ0_checkIndex_df160 cJ0_checkIndex_df160 2 none ∈ TT := tt 667 (by decide +kernel) (by decide +kernel)
theorem kj_15 : Cond.static yJ1_charAt_3b067 ∈ TT := tt 663 (by decide +kernel) (by decide +kernel)
theorem kj_16 : Cond.initialized RJ1 ∈ TT := tt 111 (by decide +kernel) (by decide +kernel)
theorem kj_17 : Cond.code yJ1_charAt_3b067 cJ1_charAt_3b067 2 (some .char) ∈ TT := tt 664 (by decide +kernel) (by decide +kernel)
theorem kj_18 : Cond.static yJ3_checkIndex_8e157 ∈ TT := tt 671 (by decide +kernel) (by decide +kernel)
theorem kj_19 : Cond.initialized RJ3 ∈ TT := tt 112 (by decide +kernel) (by decide +kernel)
theorem kj_20 : Cond.code yJ3_checkIndex_8e157 cJ3_checkIndex_8e157 3 (some .int) ∈ TT := tt 672 (by decide +kernel) (by decide +kernel)
theorem kj_21 : Cond.fieldLink RJ0 9 "java/lang/String" "value" "[B" ∈ TT := tt 1759 (by decide +kernel) (by decide +kernel)
theorem kj_22 : Cond.fieldLink RJ0 15 "java/lang/String" "coder" "B" ∈ TT := tt 1760 (by decide +kernel) (by decide +kernel)
theorem kj_23 : Cond.fieldLink RJ0 38 "java/lang/String" "COMPACT_STRINGS" "Z" ∈ TT := tt 652 (by decide +kernel) (by decide +kernel)
theorem kj_24 : Cond.fieldLink RJ0 1053 "jdk/internal/util/Preconditions" "SIOOBE_FORMATTER" "Ljava/util/function/BiFunction;" ∈ TT := tt 668 (by decide +kernel) (by decide +kernel)
theorem kj_25 : Cond.methodLink RJ0 335 yJ0_coder_7d493 ∈ TT := tt 648 (by decide +kernel) (by decide +kernel)
theorem kj_26 : Cond.methodLink RJ0 492 yJ0_isLatin1_aae02 ∈ TT := tt 658 (by decide +kernel) (by decide +kernel)
theorem kj_27 : Cond.methodLink RJ0 495 yJ1_charAt_3b067 ∈ TT := tt 662 (by decide +kernel) (by decide +kernel)
theorem kj_28 : Cond.methodLink RJ1 9 yJ0_checkIndex_df160 ∈ TT := tt 665 (by decide +kernel) (by decide +kernel)
theorem kj_29 : Cond.methodLink RJ0 1059 yJ3_checkIndex_8e157 ∈ TT := tt 670 (by decide +kernel) (by decide +kernel)
theorem mfj_J0_length_8abf5 : MFv yJ0_length_8abf5 RJ0 cJ0_length_8abf5 1 (some .int) 0 := ⟨kj_0, kj_1, kj_2, kj_3, rfl, by decide, by decide, by decide +kernel⟩
theorem mfj_J0_charAt_5068e : MFv yJ0_charAt_5068e RJ0 cJ0_charAt_5068e 2 (some .char) 1 := ⟨kj_4, kj_5, kj_2, kj_6, rfl, by decide, by decide, by decide +kernel⟩
theorem mfj_J0_coder_7d493 : MFv yJ0_coder_7d493 RJ0 cJ0_coder_7d493 1 (some .byte) 0 := ⟨kj_7, kj_8, kj_2, kj_9, rfl, by decide, by decide, by decide +kernel⟩
theorem mfj_J0_isLatin1_aae02 : MFv yJ0_isLatin1_aae02 RJ0 cJ0_isLatin1_aae02 1 (some .boolean) 0 := ⟨kj_10, kj_11, kj_2, kj_12, rfl, by decide, by decide, by decide +kernel⟩
theorem mfj_J0_checkIndex_df160 : MFs yJ0_checkIndex_df160 RJ0 cJ0_checkIndex_df160 2 none 2 := ⟨kj_13, kj_2, kj_14, rfl, by decide, by decide, by decide +kernel⟩
theorem mfj_J1_charAt_3b067 : MFs yJ1_charAt_3b067 RJ1 cJ1_charAt_3b067 2 (some .char) 2 := ⟨kj_15, kj_16, kj_17, rfl, by decide, by decide, by decide +kernel⟩
theorem mfj_J3_checkIndex_8e157 : MFs yJ3_checkIndex_8e157 RJ3 cJ3_checkIndex_8e157 3 (some .int) 3 := ⟨kj_18, kj_19, kj_20, rfl, by decide, by decide, by decide +kernel⟩
theorem KIr_of {l : Launch} {y : MethodName} {bytes : ByteArray} {maxL fr lo : Nat} {w : Om} {av : List Value} {m m' : Mem} {x : Int32} {ty : FieldType} (hn : narrow ty (.int x) = .int x) (hst : l.stackTraces = false) (hy : plainFor y = true) (own : String) (ho : y.cls = own) (hlen : (lg_sl av).length ≤ maxL)
    (body : ∀ Γ : Gc, gw Γ = w → gl Γ = l → Cx Γ bytes maxL own (rmK fr lo 0) → RI Γ maxL bytes 0 x m' → G Γ maxL 0 m 0 (lv_args 0 av) []) : KI l y bytes maxL (some ty) fr lo w av m x m' := by
  refine va_MetF (cc := bytes) (maxL := maxL) (ret := (some ty)) hy rfl ?_
  intro p e s m0 args below meth c s₁ B hml hv
  obtain ⟨rfl, hw, hx⟩ := hv
  have hts := atoms_spec (ws := wsK y bytes maxL (some ty)) B.pre
  have hown := findClass_of_methodNamed B.named
  rw [ho] at hown
  have hG := body (p, l, e, (headSpec (wsK y bytes maxL (some ty)) (rmK fr lo 0)).room, s, m0, av.toArray, below, meth, c, w, MQ below (va_Qi (fun r (_ : Unit) => r = x) (fun _ t => Wp w m' t.heap) (oA w)) av.toArray s 0 0 (oA w)) rfl rfl ⟨⟨B.exec, B.bytes, hml, hown, fun w hw => hts w (List.mem_cons_of_mem _ hw)⟩, hx, B.notSynchronized, rfl, hst⟩
    (fun pc lv hd H locs ls hl hw hS => W.zret B.exec B.bytes B.returns hn (fun t ht hW => ⟨⟨x, (), rfl, rfl, by show Wp w m' t.heap; rw [ht]; exact hw⟩, hS.F ht⟩) (fun q hq => hS.2.2 q hq) hd B.notSynchronized)
  rw [lg_entry_eq]
  exact hG s.heap [] _ (lv_entry av hlen) hw va_S.rf
section JDK
variable {Γ : Gc} {cc : ByteArray} {nL cs pc : Nat} {own : String} {rm : Room} {mem : Mem} {lv : List (Nat × Value)} {st : List Value} {idx i : Nat}
theorem g_sval (C : Cx Γ cc nL own rm) (hi : i < nST) (hd : decode cc pc = .ok (.getfield idx, 3)) (h1 : Cond.fieldLink own idx "java/lang/String" "value" "[B" ∈ TT) (k : G Γ nL cs mem (pc + 3) lv (.ref (oV (gw Γ) i) :: st)) : G Γ nL cs mem pc lv (.ref (oK (gw Γ) i) :: st) := fun H locs ls hl hw hS => vk_getf C.1.1 C.1.2.1 (C.2.1.2.2.2.2.2.1.2 i hi).2.2.1 hS C.1.2.2.2.1 (C.1.2.2.2.2 _ h1) (fun _ h => h) hd (k H locs ls hl hw hS)
theorem g_scod (C : Cx Γ cc nL own rm) (hi : i < nST) (hd : decode cc pc = .ok (.getfield idx, 3)) (h1 : Cond.fieldLink own idx "java/lang/String" "coder" "B" ∈ TT) (k : G Γ nL cs mem (pc + 3) lv (.int 0 :: st)) : G Γ nL cs mem pc lv (.ref (oK (gw Γ) i) :: st) := fun H locs ls hl hw hS => vk_getf C.1.1 C.1.2.1 (C.2.1.2.2.2.2.2.1.2 i hi).2.1 hS C.1.2.2.2.1 (C.1.2.2.2.2 _ h1) (fun _ h => h) hd (k H locs ls hl hw hS)
theorem g_scs (C : Cx Γ cc nL own rm) (hd : decode cc pc = .ok (.getstatic idx, 3)) (h1 : Cond.fieldLink own idx "java/lang/String" "COMPACT_STRINGS" "Z" ∈ TT) (k : G Γ nL cs mem (pc + 3) lv (.int 1 :: st)) : G Γ nL cs mem pc lv st := fun H locs ls hl hw hS => va_gets C.1.1 C.1.2.1 C.2.1.2.2.2.2.2.2.1 hS C.1.2.2.2.1 (C.1.2.2.2.2 _ h1) (fun _ h => h) hd (k H locs ls hl hw hS)
theorem g_sfm (C : Cx Γ cc nL own rm) (hd : decode cc pc = .ok (.getstatic idx, 3)) (h1 : Cond.fieldLink own idx "jdk/internal/util/Preconditions" "SIOOBE_FORMATTER" "Ljava/util/function/BiFunction;" ∈ TT) (k : ∀ v : Value, v.category = 1 → G Γ nL cs mem (pc + 3) lv (v :: st)) : G Γ nL cs mem pc lv st := by
  intro H locs ls hl hw hS
  rcases C.2.1.2.2.2.2.2.1.1 with hZ | ⟨t, hZ⟩
  · exact va_gets C.1.1 C.1.2.1 hZ hS C.1.2.2.2.1 (C.1.2.2.2.2 _ h1) (fun _ h => h) hd (k .null rfl H locs ls hl hw hS)
  · exact va_gets C.1.1 C.1.2.1 hZ hS C.1.2.2.2.1 (C.1.2.2.2.2 _ h1) (fun _ h => h) hd (k (.ref t) rfl H locs ls hl hw hS)
theorem g_slenB (C : Cx Γ cc nL own rm) (hi : i < nST) (hd : decode cc pc = .ok (.arraylength, 1)) (k : G Γ nL cs mem (pc + 1) lv (.int (Int32.ofNat (lenST.getD i 0)) :: st)) : G Γ nL cs mem pc lv (.ref (oV (gw Γ) i) :: st) := fun H locs ls hl hw hS => va_tlen C.1.1 C.1.2.1 (C.2.1.2.2.2.2.2.1.2 i hi).2.2.2 hS rfl hd (k H locs ls hl hw hS)
theorem g_sbald {q : Int32} (C : Cx Γ cc nL own rm) (hi : i < nST) (hq : inb q (lenST.getD i 0) = true) (hd : decode cc pc = .ok (.baload, 1)) (k : G Γ nL cs mem (pc + 1) lv (.int ((bytST.getD i []).getD q.toNatClampNeg 0) :: st)) : G Γ nL cs mem pc lv (.int q :: .ref (oV (gw Γ) i) :: st) := fun H locs ls hl hw hS => va_tb C.1.1 C.1.2.1 (C.2.1.2.2.2.2.2.1.2 i hi).2.2.2 hS (inb_vp hq) rfl hd (k H locs ls hl hw hS)
theorem g_i2c {x v : Int32} (C : Cx Γ cc nL own rm) (hd : decode cc pc = .ok (.i2c, 1)) (hv : (x.toUInt32 % 65536).toInt32 = v) (k : G Γ nL cs mem (pc + 1) lv (.int v :: st)) : G Γ nL cs mem pc lv (.int x :: st) := fun H locs ls hl hw hS => lv_i2c C.1.1 C.1.2.1 hd hv (k H locs ls hl hw hS)
theorem g_svI {y : MethodName} {bytes : ByteArray} {maxL n fr' lo' fr lo mc : Nat} {ret : Option FieldType} {As stk : List Value} {m' : Mem} {x : Int32} (C : Cx Γ cc nL own (rmK fr lo mc)) (hi : i < nST) (hd : decode cc pc = .ok (.invokevirtual idx, 3)) (F : MFv y "java/lang/String" bytes maxL ret n) (h1 : Cond.methodLink own idx y ∈ TT) (hR : fr' + 1 ≤ fr ∧ 8 + (maxL + 11) + lo' ≤ lo) (hn : As.length = n) (hst : stk = As.reverse ++ .ref (oK (gw Γ) i) :: st) (hW : (st.map fun v => v.category).sum ≤ 8) (hcs : cs ≤ mc) (hM : KI (gl Γ) y bytes maxL ret fr' lo' (gw Γ) (.ref (oK (gw Γ) i) :: As) mem x m') (k : G Γ nL cs m' (pc + 3) lv (.int x :: st)) : G Γ nL cs mem pc lv stk := by
  intro H locs ls hl hw hS
  have hrecv : ∃ cell : Cell, H[oK (gw Γ) i]? = some cell ∧ cell.vm.isStatics = false ∧ (gs Γ).vm.findClass "java/lang/String" = some cell.cls := by
    obtain ⟨cell, h1, h2, h3, -⟩ := (C.2.1.2.2.2.2.2.1.2 i hi).1.kept hS.2.1
    exact ⟨cell, h1, h2, h3⟩
  subst hst
  refine va_calli (va_runV (As := As) (rest := st) C.1 hM (cwV n C.1.2.2.2.2 (gi_V F h1) rfl rfl rfl F.2.2.2.2 ⟨by rw [C.2.2.2.1]; exact hR.1, by rw [C.2.2.2.1]; exact hR.2⟩) ⟨Wd.blind _, hrecv, fun U hU hWm => ⟨rfl, by rw [hU]; exact hw, C.2.1.move hS hU hWm⟩⟩ rfl hn hl.1 rfl (lv_room hW) hd ⟨by rw [C.2.2.2.1]; exact hcs, by rw [C.2.2.2.1]; exact Nat.mul_le_mul_left 6 hcs⟩) hS (fun q _ h => h) (fun q h => h) (fun r u t H1 locs1 ht hvm hpost hB hsz hkeep hS1 => ?_)
  subst hpost
  rw [ht] at hB
  exact k H1 locs1 ls hl hB hS1
end JDK
theorem cj_coder (l : Launch) (hst : l.stackTraces = false) (w : Om) (i : Nat) (hi : i < nST) (m : Mem) : KI l yJ0_coder_7d493 cJ0_coder_7d493 1 (some .byte) 0 0 w [.ref (oK w i)] m 0 m := KIr_of (by decide) hst (by decide +kernel) RJ0 rfl (Nat.le_of_ble_eq_true rfl) (fun Γ hw hl C hE => by
  subst hw; subst hl
  refine g_scs C dJ0_coder_7d493_0 kj_23 ?_
  refine g_if_eq (tgt := 13) C dJ0_coder_7d493_3 (by decide) (fun h9 => absurd h9 (by decide)) (fun _ => ?_)
  refine g_aload_n C dJ0_coder_7d493_6 0 rfl rfl ?_
  refine g_scod C hi dJ0_coder_7d493_7 kj_22 ?_
  refine g_goto (tgt := 14) C dJ0_coder_7d493_10 (by decide) ?_
  exact hE 14 _ dJ0_coder_7d493_14)
theorem cj_latin (l : Launch) (hst : l.stackTraces = false) (w : Om) (i : Nat) (hi : i < nST) (m : Mem) : KI l yJ0_isLatin1_aae02 cJ0_isLatin1_aae02 1 (some .boolean) 0 0 w [.ref (oK w i)] m 1 m := KIr_of (by decide) hst (by decide +kernel) RJ0 rfl (Nat.le_of_ble_eq_true rfl) (fun Γ hw hl C hE => by
  subst hw; subst hl
  refine g_scs C dJ0_isLatin1_aae02_0 kj_23 ?_
  refine g_if_eq (tgt := 17) C dJ0_isLatin1_aae02_3 (by decide) (fun h9 => absurd h9 (by decide)) (fun _ => ?_)
  refine g_aload_n C dJ0_isLatin1_aae02_6 0 rfl rfl ?_
  refine g_scod C hi dJ0_isLatin1_aae02_7 kj_22 ?_
  refine g_if_ne (tgt := 17) C dJ0_isLatin1_aae02_10 (by decide) (fun h9 => absurd rfl h9) (fun _ => ?_)
  refine g_iconst (v := (1 : Int32)) C dJ0_isLatin1_aae02_13 (by decide) ?_
  refine g_goto (tgt := 18) C dJ0_isLatin1_aae02_14 (by decide) ?_
  exact hE 18 _ dJ0_isLatin1_aae02_18)
theorem strL_ok : ∀ i, i < nST → Int32.ofNat (lenST.getD i 0) >>> ((0 : Int32) &&& 31) = strL i := by decide +kernel
theorem cj_length (l : Launch) (hst : l.stackTraces = false) (w : Om) (i : Nat) (hi : i < nST) (m : Mem) : KI l yJ0_length_8abf5 cJ0_length_8abf5 1 (some .int) 1 20 w [.ref (oK w i)] m (strL i) m := KIr_of rfl hst (by decide +kernel) RJ0 rfl (Nat.le_of_ble_eq_true rfl) (fun Γ hw hl C hE => by
  subst hw; subst hl
  refine g_aload_n C dJ0_length_8abf5_0 0 rfl rfl ?_
  refine g_sval C hi dJ0_length_8abf5_1 kj_21 ?_
  refine g_slenB C hi dJ0_length_8abf5_4 ?_
  refine g_aload_n C dJ0_length_8abf5_5 0 rfl rfl ?_
  refine g_svI (As := []) C hi dJ0_length_8abf5_6 mfj_J0_coder_7d493 kj_25 ⟨by decide, by decide⟩ rfl rfl (Nat.le_of_ble_eq_true rfl) (by decide) (cj_coder (gl Γ) C.2.2.2.2 (gw Γ) i hi m) ?_
  refine g_ishr C dJ0_length_8abf5_9 ?_
  rw [strL_ok i hi]
  exact hE 10 _ dJ0_length_8abf5_10)
theorem cj_ck3 (l : Launch) (hst : l.stackTraces = false) (w : Om) (q n : Int32) (v : Value) (hv : v.category = 1) (h1 : ¬ q < 0) (h2 : q < n) (m : Mem) : KI l yJ3_checkIndex_8e157 cJ3_checkIndex_8e157 3 (some .int) 0 0 w [.int q, .int n, v] m q m := KIr_of rfl hst (by decide +kernel) RJ3 rfl (by have e1 : (Value.int q).category = 1 := rfl; have e2 : (Value.int n).category = 1 := rfl; simp [lg_sl, hv, e1, e2]) (fun Γ hw hl C hE => by
  subst hw; subst hl
  refine g_iload_n C dJ3_checkIndex_8e157_0 0 rfl rfl ?_
  refine g_if_lt (tgt := 9) C dJ3_checkIndex_8e157_1 (by decide) (fun h9 => absurd h9 h1) (fun _ => ?_)
  refine g_iload_n C dJ3_checkIndex_8e157_4 0 rfl rfl ?_
  refine g_iload_n C dJ3_checkIndex_8e157_5 1 rfl rfl ?_
  refine g_icmp_lt (tgt := 16) C dJ3_checkIndex_8e157_6 (by decide) (fun _ => ?_) (fun h9 => absurd h2 h9)
  refine g_iload_n C dJ3_checkIndex_8e157_16 0 rfl rfl ?_
  exact hE 17 _ dJ3_checkIndex_8e157_17)
theorem cj_cki (l : Launch) (hst : l.stackTraces = false) (w : Om) (q n : Int32) (h1 : ¬ q < 0) (h2 : q < n) (m : Mem) : KV l yJ0_checkIndex_df160 cJ0_checkIndex_df160 2 none 1 22 w [.int q, .int n] m m := KVF_of hst (by decide +kernel) RJ0 rfl (Nat.le_of_ble_eq_true rfl) (fun Γ hw hl C hE => by
  subst hw; subst hl
  refine g_iload_n C dJ0_checkIndex_df160_0 0 rfl rfl ?_
  refine g_iload_n C dJ0_checkIndex_df160_1 1 rfl rfl ?_
  refine g_sfm C dJ0_checkIndex_df160_2 kj_24 (fun v hv => ?_)
  refine g_sI (As := [.int q, .int n, v]) C dJ0_checkIndex_df160_5 mfj_J3_checkIndex_8e157 kj_29 ⟨by decide, by decide⟩ rfl rfl (Nat.le_of_ble_eq_true rfl) (by decide) (cj_ck3 (gl Γ) C.2.2.2.2 (gw Γ) q n v hv h1 h2 m) ?_
  refine g_pop C dJ0_checkIndex_df160_8 rfl ?_
  exact hE 9 _ dJ0_checkIndex_df160_9)
theorem strC_ok : ∀ i, i < nST → ∀ k, k < lenST.getD i 0 → ((((bytST.getD i []).getD k 0 &&& 255).toUInt32 % 65536).toInt32 = (bytST.getD i []).getD k 0 ∧ narrow .char (.int ((bytST.getD i []).getD k 0)) = .int ((bytST.getD i []).getD k 0)) := by decide +kernel
theorem lenST_lt : ∀ i, i < nST → lenST.getD i 0 < 100 := by decide +kernel
theorem inb_lt {q : Int32} {n : Nat} (h : inb q n = true) (hn : n < 2 ^ 31) : ¬ q < 0 ∧ q < Int32.ofNat n ∧ q.toNatClampNeg < n := by
  have hv := inb_vp h
  obtain ⟨j, hj, rfl⟩ := vp_in_of hv hn
  refine ⟨nI_pos (by omega), nI_lt hj hn, ?_⟩
  rw [nI_clamp (by omega)]
  exact hj
theorem cj_ch1 (l : Launch) (hst : l.stackTraces = false) (w : Om) (i : Nat) (hi : i < nST) (q : Int32) (hq : inb q (lenST.getD i 0) = true) (m : Mem) : KI l yJ1_charAt_3b067 cJ1_charAt_3b067 2 (some .char) 2 50 w [.ref (oV w i), .int q] m (strC i q) m := by
  obtain ⟨h1, h2, h3⟩ := inb_lt hq (Nat.lt_trans (lenST_lt i hi) (by decide))
  obtain ⟨h4, h5⟩ := strC_ok i hi _ h3
  exact KIr_of h5 hst (by decide +kernel) RJ1 rfl (Nat.le_of_ble_eq_true rfl) (fun Γ hw hl C hE => by
  subst hw; subst hl
  refine g_iload_n C dJ1_charAt_3b067_0 1 rfl rfl ?_
  refine g_aload_n C dJ1_charAt_3b067_1 0 rfl rfl ?_
  refine g_slenB C hi dJ1_charAt_3b067_2 ?_
  refine g_sV (As := [.int q, .int (Int32.ofNat (lenST.getD i 0))]) C dJ1_charAt_3b067_3 mfj_J0_checkIndex_df160 kj_28 ⟨by decide, by decide⟩ rfl rfl (Nat.le_of_ble_eq_true rfl) (by decide) (cj_cki (gl Γ) C.2.2.2.2 (gw Γ) q _ h1 h2 m) ?_
  refine g_aload_n C dJ1_charAt_3b067_6 0 rfl rfl ?_
  refine g_iload_n C dJ1_charAt_3b067_7 1 rfl rfl ?_
  refine g_sbald C hi hq dJ1_charAt_3b067_8 ?_
  refine g_sipush (v := (255 : Int32)) C dJ1_charAt_3b067_9 (by decide) ?_
  refine g_iand C dJ1_charAt_3b067_12 ?_
  refine g_i2c C dJ1_charAt_3b067_13 h4 ?_
  exact hE 14 _ dJ1_charAt_3b067_14)
theorem cj_charAt (l : Launch) (hst : l.stackTraces = false) (w : Om) (i : Nat) (hi : i < nST) (q : Int32) (hq : inb q (lenST.getD i 0) = true) (m : Mem) : KI l yJ0_charAt_5068e cJ0_charAt_5068e 2 (some .char) 3 75 w [.ref (oK w i), .int q] m (strC i q) m := by
  obtain ⟨h1, h2, h3⟩ := inb_lt hq (Nat.lt_trans (lenST_lt i hi) (by decide))
  obtain ⟨h4, h5⟩ := strC_ok i hi _ h3
  exact KIr_of h5 hst (by decide +kernel) RJ0 rfl (Nat.le_of_ble_eq_true rfl) (fun Γ hw hl C hE => by
  subst hw; subst hl
  refine g_aload_n C dJ0_charAt_5068e_0 0 rfl rfl ?_
  refine g_svI (As := []) C hi dJ0_charAt_5068e_1 mfj_J0_isLatin1_aae02 kj_26 ⟨by decide, by decide⟩ rfl rfl (Nat.le_of_ble_eq_true rfl) (by decide) (cj_latin (gl Γ) C.2.2.2.2 (gw Γ) i hi m) ?_
  refine g_if_eq (tgt := 16) C dJ0_charAt_5068e_4 (by decide) (fun h9 => absurd h9 (by decide)) (fun _ => ?_)
  refine g_aload_n C dJ0_charAt_5068e_7 0 rfl rfl ?_
  refine g_sval C hi dJ0_charAt_5068e_8 kj_21 ?_
  refine g_iload_n C dJ0_charAt_5068e_11 1 rfl rfl ?_
  refine g_sI (As := [.ref (oV (gw Γ) i), .int q]) C dJ0_charAt_5068e_12 mfj_J1_charAt_3b067 kj_27 ⟨by decide, by decide⟩ rfl rfl (Nat.le_of_ble_eq_true rfl) (by decide) (cj_ch1 (gl Γ) C.2.2.2.2 (gw Γ) i hi q hq m) ?_
  exact hE 15 _ dJ0_charAt_5068e_15)
section JDK2
variable {Γ : Gc} {cc : ByteArray} {nL cs pc : Nat} {own : String} {mem : Mem} {lv : List (Nat × Value)} {st : List Value} {fr lo mc idx : Nat}
theorem g_strlen {i : Nat} (C : Cx Γ cc nL own (rmK fr lo mc)) (hd : decode cc pc = .ok (.invokevirtual idx, 3)) (h1 : Cond.methodLink own idx yJ0_length_8abf5 ∈ TT) (hfr : 4 ≤ fr) (hlo : 120 ≤ lo) (hW : (st.map fun v => v.category).sum ≤ 8) (hcs : cs ≤ mc) (hi : decide (i < nST) = true) (k : G Γ nL cs mem (pc + 3) lv (.int (strL i) :: st)) : G Γ nL cs mem pc lv (.ref (oK (gw Γ) i) :: st) := g_svI (As := []) C (of_decide_eq_true hi) hd mfj_J0_length_8abf5 h1 ⟨by omega, by omega⟩ rfl rfl hW hcs (cj_length (gl Γ) C.2.2.2.2 (gw Γ) i (of_decide_eq_true hi) mem) k
theorem okS_d {i : Nat} {q : Int32} (h : okS i q = true) : i < nST ∧ inb q (lenST.getD i 0) = true := by
  simp only [okS, Bool.and_eq_true, decide_eq_true_eq] at h
  exact h
theorem g_charAt {i : Nat} {q : Int32} (C : Cx Γ cc nL own (rmK fr lo mc)) (hd : decode cc pc = .ok (.invokevirtual idx, 3)) (h1 : Cond.methodLink own idx yJ0_charAt_5068e ∈ TT) (hfr : 5 ≤ fr) (hlo : 160 ≤ lo) (hW : (st.map fun v => v.category).sum ≤ 8) (hcs : cs ≤ mc) (hi : okS i q = true) (k : G Γ nL cs mem (pc + 3) lv (.int (strC i q) :: st)) : G Γ nL cs mem pc lv (.int q :: .ref (oK (gw Γ) i) :: st) := g_svI (As := [.int q]) C (okS_d hi).1 hd mfj_J0_charAt_5068e h1 ⟨by omega, by omega⟩ rfl rfl hW hcs (cj_charAt (gl Γ) C.2.2.2.2 (gw Γ) i (okS_d hi).1 q (okS_d hi).2 mem) k
end JDK2
/-! 'throw new NoSuchElementException(text)': its constructor calls RuntimeException's by entry 13, where the kit's row for exceptions wants 7; the road is the kit's and the library's own (Stand.ctorThrowS), with that one link changed -/
def nsX : String := "java/util/NoSuchElementException"
def ns13 : ByteArray := ⟨#[0x2a, 0x2b, 0xb7, 0x00, 0x0d, 0xb1]⟩
theorem ns13_0 : decode ns13 0 = .ok (.aload_n 0, 1) := by decide +kernel
theorem ns13_1 : decode ns13 1 = .ok (.aload_n 1, 1) := by decide +kernel
theorem ns13_2 : decode ns13 2 = .ok (.invokespecial 13, 3) := by decide +kernel
theorem ns13_5 : decode ns13 5 = .ok (.return_, 1) := by decide +kernel
def nsAt (own : String) (ic : Nat) : List Cond :=
  Bundle.throwableAtoms ++ Bundle.throwableSAtoms ++ (Bundle.passSAtoms nsX "java/lang/RuntimeException" 13 ns13 ++ Bundle.chainSAtoms "java/lang/RuntimeException" ["java/lang/Exception"]) ++
  [.methodLink own ic (Bundle.initS nsX), .instantiable nsX 6, .castable nsX nsX, .selects nsX Bundle.tFill0 Bundle.tFill0, .selects nsX Bundle.tFill Bundle.tFill,
   .lays nsX Bundle.tN "cause" "Ljava/lang/Throwable;", .lays nsX Bundle.tN "stackTrace" Bundle.steD, .lays nsX Bundle.tN "suppressedExceptions" Bundle.listD, .lays nsX Bundle.tN "detailMessage" "Ljava/lang/String;",
   .isRef (.static Bundle.tN "UNASSIGNED_STACK" Bundle.steD), .isRef (.static Bundle.tN "SUPPRESSED_SENTINEL" Bundle.listD),
   .fieldLink Bundle.tN 198 Bundle.tN "backtrace" "Ljava/lang/Object;", .lays Bundle.tN Bundle.tN "backtrace" "Ljava/lang/Object;", .lays nsX Bundle.tN "backtrace" "Ljava/lang/Object;"]
section NSC
variable {p : Program} {l : Launch} {e : Env} {R : Room} {s : State} {m₀ : MethodId} {args : Array Value} {below : List Frame} {meth : Method} {c : Code} {W9 : State} {locs : List Loc} {cells slots : Nat}
set_option maxHeartbeats 4000000 in
theorem ns_ctorThrow (X : Stand p l e R s m₀ args below meth c W9 locs cells slots) (hexec : p.tables.exec = Jvm.exec) (htr : e.platform.stackTraces = false) {own : String} {ic : Nat}
    (hown : s.vm.findClass own = some m₀.cls) (h : ∀ a ∈ nsAt own ic, a.before args s = true)
    (hlocs : ∀ x ∈ locs, ∀ cell, s.heap[x.base]? = some cell → cell.vm.isStatics = false)
    {a : Addr} {cX : ClassId} {kX : Class} (hfoundX : s.vm.findClass nsX = some cX) (hkX : s.vm.classes[cX]? = some kX) (hcell : W9.heap[a]? = some (freshCell cX kX)) (hnew : s.heap.size ≤ a)
    {msg : Value} (hmsg : msg.isRef = true)
    {g : JFrame} (hg : g.method = m₀) (hsize : g.locals.size = c.maxLocals) (hlocked : g.locked = none) (hentered : g.entered = []) {rest : List Value} (hstack : g.stack = msg :: .ref a :: .ref a :: rest)
    (hd6 : decode c.code g.pc = .ok (.invokespecial ic, 3)) (hd9 : decode c.code (g.pc + 3) = .ok (.athrow, 1)) (hout : ∀ x ∈ c.exceptionTable.toList, covers x (g.pc + 3) = false)
    (hRframes : 5 < R.frames) (hRlocals : 2 * g.monitorRoom + ((Value.ref a :: rest).map fun v => v.category).sum + 81 ≤ R.locals) (hlocks : meth.locks = false) :
    ∃ U : State, Steps p.tables e below (W9.setTop g) U ∧ U.status = .running ∧ Ended U below (.threw a) ∧ s.WarmedH U.vm ∧ s.sameButNew ({ U with vm := s.vm } : State) locs cells slots ∧
      ∃ ce, U.heap[a]? = some ce ∧ s.vm.findClass nsX = some ce.cls ∧ ce.vm = .none := by
  have howns : e.platform.frameOwnsMonitors = true := by rw [X.admits.platform]
  have hfin : e.platform.finalization = false := by rw [X.admits.platform]
  have hpl : e.platform.magicAccessors = ({} : Platform).magicAccessors := by rw [X.admits.platform]
  have a' : ∀ x, x ∈ nsAt own ic → x.holds args s none s [] = true := fun x hx => h x hx
  obtain ⟨T, Z0, L, -, Y⟩ := ThrowableC.of_atoms (args := args) howns hfin hpl (fun x hx => h x (by simp [nsAt, hx]))
  obtain ⟨Z, M, LZ, LM, hnZ⟩ := Init0T.ofS_atoms (args := args) hpl L Y (fun x hx => h x (by simp [nsAt, hx]))
  obtain ⟨P2, Ps, hlen, L2, hL, hP2m, hlink2, hlink⟩ := Bundle.chainS (args := args) hpl hnZ ["java/lang/Exception"] "java/lang/RuntimeException" (by decide) (by decide) (fun x hx => h x (by simp [nsAt, hx]))
  obtain ⟨P1, L1, hP1m, hP1s⟩ := PassC.ofS_atoms (args := args) (s := s) hpl (X := nsX) (Y := "java/lang/RuntimeException") (by decide) (by decide) ns13_0 ns13_1 ns13_2 ns13_5 (fun x hx => h x (by simp [nsAt, hx]))
  have hlink1 : P1.sup = P2.m := Option.some.inj (hP1s.symm.trans hP2m)
  have hfound : s.vm.findClass nsX = some P1.m.cls := findClass_of_methodNamed hP1m
  cases Option.some.inj (hfoundX.symm.trans hfound)
  obtain ⟨c1, kX', hc1, hk, hord, -, -, hn6⟩ := Cond.instantiable_spec (a' (.instantiable nsX 6) (by simp [nsAt]))
  cases Option.some.inj (hc1.symm.trans hfound)
  cases Option.some.inj (hkX.symm.trans hk)
  have hsel0 : selectMethod e.platform s.vm P1.m.cls T.fill0 = .method T.fill0 := by
    obtain ⟨c2, r2, m2, q1, q2, q3, q4, -⟩ := Cond.selects_spec (a' (.selects nsX Bundle.tFill0 Bundle.tFill0) (by simp [nsAt]))
    cases Option.some.inj (q1.symm.trans hfound)
    cases Option.some.inj (q2.symm.trans (State.methodFound?_of_named Y.fill0 (by decide)))
    cases Option.some.inj (q3.symm.trans Y.fill0)
    rw [Launch.admits_selectMethod X.admits]; exact q4
  have hselF : selectMethod e.platform s.vm P1.m.cls T.fill = .method T.fill := by
    obtain ⟨c2, r2, m2, q1, q2, q3, q4, -⟩ := Cond.selects_spec (a' (.selects nsX Bundle.tFill Bundle.tFill) (by simp [nsAt]))
    cases Option.some.inj (q1.symm.trans hfound)
    cases Option.some.inj (q2.symm.trans (State.methodFound?_of_named Y.fill (by decide)))
    cases Option.some.inj (q3.symm.trans Y.fill)
    rw [Launch.admits_selectMethod X.admits]; exact q4
  obtain ⟨cellS0, hcS0, hiss⟩ := Y.statics
  obtain ⟨u0, hu0⟩ := Cond.staticRefV Y.unassigned L.unassignedStatic L.statics hcS0 hiss (a' (.isRef (.static Bundle.tN "UNASSIGNED_STACK" Bundle.steD)) (by simp [nsAt]))
  obtain ⟨sen, hsen⟩ := Cond.staticRefV Y.sentinel L.sentinelStatic L.statics hcS0 hiss (a' (.isRef (.static Bundle.tN "SUPPRESSED_SENTINEL" Bundle.listD)) (by simp [nsAt]))
  obtain ⟨ci198, i198, fB, hk198, hg198, ha198, hsB, -, hnB, htB, hffB⟩ := Cond.ownField (t := .object "java/lang/Object") Y.found L.cls (by decide +kernel) (a' (.fieldLink Bundle.tN 198 Bundle.tN "backtrace" "Ljava/lang/Object;") (by simp [nsAt])) (a' (.lays Bundle.tN Bundle.tN "backtrace" "Ljava/lang/Object;") (by simp [nsAt])) e.platform hpl
  obtain ⟨cellS, hcS', heS, -, hkeep⟩ := X.same.2.2.2.2.2 T.aS cellS0 hcS0
  have hcellS : W9.heap[T.aS]? = some cellS := hcS'
  have hout' : ∀ i, (⟨T.aS, i⟩ : Loc) ∉ locs := fun i hmem => by
    have := hlocs _ hmem cellS0 hcS0
    rw [hiss] at this; cases this
  have hknownS : cellS.vm ≠ .unknown := by
    rw [heS]; intro hu
    rw [show cellS0.vm = .unknown from hu] at hiss
    cases hiss
  have hneS : T.aS ≠ a := Nat.ne_of_lt (Nat.lt_of_lt_of_le (Array.getElem?_eq_some_iff.mp hcS0).1 hnew)
  obtain ⟨iM, hffM⟩ := Y.msg
  obtain ⟨tyC, dC, hdC, hdnC⟩ := Cond.laysAt hfound hk Y.cause (a' (.lays nsX Bundle.tN "cause" "Ljava/lang/Throwable;") (by simp [nsAt]))
  obtain ⟨tyS, dS, hdS, hdnS⟩ := Cond.laysAt hfound hk Y.stack (a' (.lays nsX Bundle.tN "stackTrace" Bundle.steD) (by simp [nsAt]))
  obtain ⟨tyP, dP, hdP, hdnP⟩ := Cond.laysAt hfound hk Y.supp (a' (.lays nsX Bundle.tN "suppressedExceptions" Bundle.listD) (by simp [nsAt]))
  obtain ⟨tyM, dM, hdM, hdnM⟩ := Cond.laysAt hfound hk hffM (a' (.lays nsX Bundle.tN "detailMessage" "Ljava/lang/String;") (by simp [nsAt]))
  obtain ⟨tyB, dB, hdB, hdnB⟩ := Cond.laysAt hfound hk hffB (a' (.lays nsX Bundle.tN "backtrace" "Ljava/lang/Object;") (by simp [nsAt]))
  have bC := Cond.laysApart hdB hdC hdnB hdnC (by rw [hnB, Y.causeName]; decide)
  have bS := Cond.laysApart hdB hdS hdnB hdnS (by rw [hnB, Y.stackName]; decide)
  have bP := Cond.laysApart hdB hdP hdnB hdnP (by rw [hnB, Y.suppName]; decide)
  have hskip : SkipFacts T e.platform s (fun u => u) u0 ((preparedCellV T.toThrowableT (freshCell P1.m.cls kX) a u0 sen).withEntry W9.cur) :=
    ⟨{ ci198 := ci198, i198 := i198, fBack := fB }, ⟨hk198, hg198, ha198, hsB⟩, by
      have := fresh_default (c := P1.m.cls) tyB
      rw [htB] at this
      simpa [preparedCellV, Cell.setSlot, Cell.withEntry, Array.getElem?_setIfInBounds, bC, bS, bP, bC.symm, bS.symm, bP.symm, defaultValue] using this, fun _ _ => rfl⟩
  obtain ⟨tm, methC, cdC, kC, vm₁, hnC, -, -, -, -, -, -, -, hW₁, st1⟩ := Steps.initColdS (tb := p.tables) (e := e) (below := below) (s := s) (U := W9) X.here hexec X.warmed hpl hown (t := Bundle.initS nsX) rfl rfl (by decide)
    (a' (.methodLink own ic (Bundle.initS nsX)) (by simp [nsAt])) (h (.instanceMethod (Bundle.initS nsX)) (by simp [nsAt, Bundle.passSAtoms])) (bytes := ns13) (maxL := 2) (h (.code (Bundle.initS nsX) ns13 2 none) (by simp [nsAt, Bundle.passSAtoms]))
    (f := g) hg (a := a) (msg := msg) (rest := .ref a :: rest) hstack hd6
  cases Option.some.inj (hnC.symm.trans hP1m)
  have X₁ := X.noted hW₁
  obtain ⟨vm₂, X₂, st2⟩ := X₁.ctorMessageOffV hexec (g := { g with stack := .ref a :: rest }) hg hsize T L Z LZ M LM (P1 :: P2 :: Ps)
    (fun P hP => by rcases List.mem_cons.mp hP with rfl | hP; exact L1; rcases List.mem_cons.mp hP with rfl | hP; exact L2; exact hL P hP) ⟨hlink1, hlink2, hlink⟩ (u0 := u0) (sen := sen) (self := a) hmsg (cell := freshCell P1.m.cls kX) (cellS := cellS)
    hcell (fun _ => by simp) (by simp) rfl rfl hsel0 hselF hcellS hneS hknownS (by rw [hkeep _ (hout' _)]; exact hu0) (by rw [hkeep _ (hout' _)]; exact hsen)
    (Takes.of_laid hk hord tyC (by rw [Y.causeType]; rfl)) (Takes.of_laid hk hord tyS (by rw [Y.stackType]; exact fits_refV_array _ u0)) (Takes.of_laid hk hord tyP (by rw [Y.suppType]; exact fits_refV_object _ sen))
    (Takes.of_laid hk hord tyM (by rw [Y.msgType]; exact fits_refV_object _ ⟨msg, hmsg⟩)) Y.objLocals hskip htr [] hd6
    (by simp only [List.length_cons, hlen, List.length_nil]; omega) (by simp only [List.length_cons, hlen, List.length_nil]; exact hRlocals)
  obtain ⟨hwalk, hrun, hended, hWU, hsame⟩ := X₂.athrowLeaves hexec (g := { g with stack := .ref a :: rest, pc := g.pc + 3 }) hg hlocked hentered hout (a := a) (rest := rest) rfl hd9
  have hlt : a < ((W9.setVm vm₁).setVm vm₂).heap.size := (Array.getElem?_eq_some_iff.mp hcell).1
  have hU := heapAt_setCell_self (s := (W9.setVm vm₁).setVm vm₂) (plainBareV T.toThrowableT (freshCell P1.m.cls kX) a u0 sen msg) hlt
  refine ⟨_, st1 _ (fun acts => ?_), hrun, hended, hWU, hsame.weaken (fun y hy hlt' => ?_) (Nat.le_refl _) (Nat.le_refl _), _, hU, hfound, rfl⟩
  · rw [doInvoke_state]
    exact st2 _ hwalk
  · rcases List.mem_append.mp hy with h1 | h1
    · exact h1
    · exfalso
      have hb : y.base = a := by
        simp only [List.mem_cons, List.not_mem_nil, or_false] at h1
        rcases h1 with rfl | rfl | rfl | rfl | rfl <;> rfl
      rw [hb] at hlt'
      exact Nat.not_lt.mpr hnew hlt'
end NSC
theorem ns_own {args : Array Value} {s : State} {own : String} {ic : Nat} (h1 : ∀ w ∈ (nsAt own ic).filter vx_no, w.before args s = true) (hU : (Cond.isRef (.static Bundle.tN "UNASSIGNED_STACK" Bundle.steD)).before args s = true) (hN : (Cond.isRef (.static Bundle.tN "SUPPRESSED_SENTINEL" Bundle.listD)).before args s = true) (lU : (Cond.laysStatic Bundle.tN "UNASSIGNED_STACK" Bundle.steD).before args s = true) (lN : (Cond.laysStatic Bundle.tN "SUPPRESSED_SENTINEL" Bundle.listD).before args s = true) : ∀ w ∈ nsAt own ic, w.before args s = true := vx_own h1 hU hN lU lN
theorem ns_good : ∀ w ∈ ((nsAt RX9 256).filter vx_no).filter goodWord, w ∈ TT := ttF (by decide +kernel)
theorem ns_oth : ∀ w ∈ ((nsAt RX9 256).filter vx_no).filter (fun w => !goodWord w), w ∈ dclW.map (fun q => Cond.declares q) ++ castW.map (fun q => Cond.castable q q) := by decide +kernel
theorem ns_ot : ∀ w ∈ Cond.classLink RX9 252 nsX :: Cond.initialized nsX :: (nsAt RX9 256).filter vx_no, vx_ot w = true := by decide +kernel
theorem ns_cl : Cond.classLink RX9 252 nsX ∈ TT := tt 907 (by decide +kernel) (by decide +kernel)
theorem ns_in : Cond.initialized nsX ∈ TT := tt 118 (by decide +kernel) (by decide +kernel)
section NSR
variable {Γ : Gc} {cc : ByteArray} {nL cs pc : Nat} {mem : Mem} {lv : List (Nat × Value)} {st : List Value} {fr lo mc : Nat}
theorem g_throwN {is n : Nat} {tx : String} (C : Cx Γ cc nL RX9 (rmK fr lo mc)) (d0 : decode cc pc = .ok (.new 252, 3)) (d3 : decode cc (pc + 3) = .ok (.dup, 1)) (d4 : decode cc (pc + 4) = .ok (.ldc is, 2)) (d6 : decode cc (pc + 6) = .ok (.invokespecial 256, 3)) (d9 : decode cc (pc + 9) = .ok (.athrow, 1)) (hstr : (RX9, is, tx, n) ∈ strW) (hfr : 5 < fr) (hlo : (st.map fun v => v.category).sum + 82 ≤ lo) (hcs : cs + 1 ≤ mc) (hX : RX Γ 3 mem) : G Γ nL cs mem pc lv st := by
  intro H locs ls hl hw hS
  obtain ⟨Qc, XC, mc', hQ, hc1, hc2, htab, hx⟩ := hX
  have hm : mc' = mc := by rw [← hc1, C.2.2.2.1]; rfl
  subst hm
  rw [hQ]
  have hat : ∀ w ∈ (nsAt RX9 256).filter vx_no, w.before (gar Γ) (gs Γ) = true := by
    refine vx_hat (fun w hw => C.1.2.2.2.2 _ (ns_good w hw)) ns_oth (fun w hw => ?_)
    rcases List.mem_append.mp hw with h | h
    · obtain ⟨q, hq, rfl⟩ := List.mem_map.mp h
      exact va_Nw.use rfl (C.2.1.2.2.2.2.2.2.2.2.1 q hq)
    · obtain ⟨q, hq, rfl⟩ := List.mem_map.mp h
      exact va_Nw.use rfl (C.2.1.2.2.2.2.2.2.2.2.2.1 q hq)
  have hexec := C.1.1
  have hb := C.1.2.1
  have hsize : ls.size = (gc Γ).maxLocals := hl.1.trans C.1.2.2.1.symm
  have hout : ∀ x ∈ (gc Γ).exceptionTable.toList, covers x (pc + 9) = false := fun x hx => (htab x hx).elim
  have hRf : 5 < (gRm Γ).frames := by rw [C.2.2.2.1]; exact hfr
  have hRl : (st.map fun v => v.category).sum + 82 ≤ (gRm Γ).locals := by rw [C.2.2.2.1]; exact hlo
  have hRc : cs + 1 ≤ (gRm Γ).cells := by rw [C.2.2.2.1]; exact hcs
  have hRs : 6 * cs + 6 ≤ (gRm Γ).slots := by rw [C.2.2.2.1]; show 6 * cs + 6 ≤ 6 * mc'; omega
  intro T hT X
  have htr : (ge Γ).platform.stackTraces = false := (show (ge Γ).platform.stackTraces = (gl Γ).stackTraces by rw [X.admits.platform]).trans C.2.2.2.2
  have Y := vx_rebase X (R' := { frames := (gRm Γ).frames, locals := (gRm Γ).locals, cells := 1, slots := 6 }) (Nat.le_refl _) (Nat.le_refl _) hRc hRs
  obtain ⟨s', hA⟩ : ∃ z, z = (T.setVm (gs Γ).vm).setFrames (.invoking (gm Γ) (gar Γ) :: gbe Γ) := ⟨_, rfl⟩
  rw [← hA] at Y
  have hvm : s'.vm = (gs Γ).vm := by rw [hA]; rfl
  have hhp : s'.heap = H := by rw [hA]; exact hT
  have hW0 : (gs Γ).WarmedH s'.vm := by rw [hvm]; exact State.WarmedH.refl (gs Γ)
  have hat' : ∀ w ∈ (nsAt RX9 256).filter vx_no, w.before (gar Γ) s' = true := fun w hw => vx_ot_at hW0 hvm.symm (ns_ot w (List.mem_cons_of_mem _ (List.mem_cons_of_mem _ hw))) (hat w hw)
  have hk' : (Cond.classLink RX9 252 nsX).before (gar Γ) s' = true := vx_ot_at hW0 hvm.symm (ns_ot _ List.mem_cons_self) (C.1.2.2.2.2 _ ns_cl)
  have hini' : (Cond.initialized nsX).before (gar Γ) s' = true := vx_ot_at hW0 hvm.symm (ns_ot _ (List.mem_cons_of_mem _ List.mem_cons_self)) (C.1.2.2.2.2 _ ns_in)
  have hU' : vx_Zq Bundle.tN "UNASSIGNED_STACK" Bundle.steD (oA (gw Γ)) s' s'.heap := by rw [hhp]; exact vx_Zq.moved hW0.alike (C.2.1.2.2.1.kept hS.2.1)
  have hN' : vx_Zq Bundle.tN "SUPPRESSED_SENTINEL" Bundle.listD (oA (gw Γ)) s' s'.heap := by rw [hhp]; exact vx_Zq.moved hW0.alike (C.2.1.2.2.2.1.kept hS.2.1)
  have h : ∀ w ∈ nsAt RX9 256, w.before (gar Γ) s' = true := ns_own hat' (vx_isRefq hU'.1) (vx_isRefq hN'.1) hU'.2.word hN'.2.word
  have hown' : s'.vm.findClass RX9 = some (gm Γ).cls := by rw [hvm]; exact C.1.2.2.2.1
  have hins : (Cond.instantiable nsX 6).before (gar Γ) s' = true := h _ (by simp [nsAt])
  obtain ⟨vm₁, cX, kX, hfX, hkX, -, -, X₁, st1⟩ := Y.newCold hexec (own := RX9) (C := nsX) (index := 252) (n := 6) hown' hk' hins hini'
    (g := F0 (gm Γ) pc ls st) rfl (by rw [hb]; exact d0) (Nat.le_refl _) (Nat.le_refl _)
  generalize hT1 : (T.setVm vm₁).pushCell { cls := cX, slots := kX.instanceTypes.map defaultValue, vm := .none } = T1 at X₁ st1
  have hcat : (Value.ref T.heap.size).category = 1 := rfl
  have hcellA : T1.heap[T.heap.size]? = some (freshCell cX kX) := by rw [← hT1]; exact State.heap_pushCell_size _ _
  have d3' : decode (gc Γ).code (pc + 3) = .ok (.dup, 1) := by rw [hb]; exact d3
  have d4' : decode (gc Γ).code (pc + 4) = .ok (.ldc is, 2) := by rw [hb]; exact d4
  have hstr' : vk_R RX9 is tx (oK (gw Γ) n) s' := vk_R.warm hW0 (C.2.1.2.2.2.2.1 _ hstr)
  obtain ⟨U, hsteps, hrun, hend, hW, hsame, ce, hce, hOc, hOv⟩ := ns_ctorThrow X₁ hexec htr (own := RX9) (ic := 256) hown' h (fun x hx => nomatch hx) hfX hkX hcellA (by rw [hhp, hT]; exact Nat.le_refl _) (msg := .ref (oK (gw Γ) n)) rfl
    (g := { method := gm Γ, pc := pc + 6, locals := ls, stack := .ref (oK (gw Γ) n) :: .ref T.heap.size :: .ref T.heap.size :: st, locked := none }) rfl hsize rfl rfl (rest := st) rfl
    (by rw [hb]; exact d6) (by rw [hb]; exact d9) hout hRf (by simp only [List.map_cons, List.sum_cons, hcat]; omega) C.2.2.1
  obtain ⟨f1, f2⟩ := vx_frame hsame
  rw [hhp] at f1 f2
  have hWs : (gs Γ).WarmedH U.vm := State.WarmedH.trans hW0 hW
  have hcl : (gs Γ).vm.findClass nsX = some ce.cls := by
    rw [hvm] at hOc
    exact hOc
  have hall : (gs Γ).sameButNew ({ U with vm := (gs Γ).vm } : State) locs mc' (6 * mc') := by
    subst hA
    obtain ⟨e1, e2⟩ := hsame
    rw [State.setFrames_setFrames] at e1
    have h2 : (T.setVm (gs Γ).vm).sameButNew ({ U with vm := (gs Γ).vm } : State) [] (0 + 1) (0 + 6) := ⟨e1, e2⟩
    have h3 := X.same.trans h2
    rw [List.append_nil] at h3
    exact h3.mono hcs (by omega)
  have hk9 : ∀ q : Nat, q < H.size → U.heap[q]? = H[q]? := fun q hq => f2 q hq (fun z hz => nomatch hz)
  have hXC : XC (exN 3) (gs Γ) U := by
    refine hx U ⟨va_P.kept hw.1 (fun k q hq => hk9 _ (va_at.lt (hw.1 k q hq))), hw.2⟩ ⟨Nat.le_trans hS.1 f1, fun q hq hA9 => ?_⟩
    rw [hk9 q (Nat.lt_of_lt_of_le hq hS.1)]
    exact hS.2.1 q hq hA9
  refine ⟨U, ?_, .threw T.heap.size, hrun, hend, Or.inr ⟨T.heap.size, rfl, exN 3, ce, locs, hXC, hce, hOv, hcl, hWs, hall, fun z hz => hS.2.2 z hz⟩⟩
  refine st1 _ ?_
  show Steps (gp Γ).tables (ge Γ) (gbe Γ) (T1.setTop { method := gm Γ, pc := pc + 3, locals := ls, stack := .ref T.heap.size :: st, locked := none }) _
  jvm_step X₁.here [X₁.here.top, hexec, d3', Value.category]
  exact X₁.ldcString hexec (own := RX9) (text := tx) (index := is) (a := oK (gw Γ) n) hown' hstr'.1 hstr'.2
    (g := { method := gm Γ, pc := pc + 4, locals := ls, stack := .ref T.heap.size :: .ref T.heap.size :: st, locked := none }) rfl d4' _ hsteps
theorem g_throwNW {is n : Nat} {tx : String} (C : Cx Γ cc nL RX9 (rmK fr lo mc)) (d0 : decode cc pc = .ok (.new 252, 3)) (d3 : decode cc (pc + 3) = .ok (.dup, 1)) (d4 : decode cc (pc + 4) = .ok (.ldc_w is, 3)) (d6 : decode cc (pc + 7) = .ok (.invokespecial 256, 3)) (d9 : decode cc (pc + 10) = .ok (.athrow, 1)) (hstr : (RX9, is, tx, n) ∈ strW) (hfr : 5 < fr) (hlo : (st.map fun v => v.category).sum + 82 ≤ lo) (hcs : cs + 1 ≤ mc) (hX : RX Γ 3 mem) : G Γ nL cs mem pc lv st := by
  intro H locs ls hl hw hS
  obtain ⟨Qc, XC, mc', hQ, hc1, hc2, htab, hx⟩ := hX
  have hm : mc' = mc := by rw [← hc1, C.2.2.2.1]; rfl
  subst hm
  rw [hQ]
  have hat : ∀ w ∈ (nsAt RX9 256).filter vx_no, w.before (gar Γ) (gs Γ) = true := by
    refine vx_hat (fun w hw => C.1.2.2.2.2 _ (ns_good w hw)) ns_oth (fun w hw => ?_)
    rcases List.mem_append.mp hw with h | h
    · obtain ⟨q, hq, rfl⟩ := List.mem_map.mp h
      exact va_Nw.use rfl (C.2.1.2.2.2.2.2.2.2.2.1 q hq)
    · obtain ⟨q, hq, rfl⟩ := List.mem_map.mp h
      exact va_Nw.use rfl (C.2.1.2.2.2.2.2.2.2.2.2.1 q hq)
  have hexec := C.1.1
  have hb := C.1.2.1
  have hsize : ls.size = (gc Γ).maxLocals := hl.1.trans C.1.2.2.1.symm
  have hout : ∀ x ∈ (gc Γ).exceptionTable.toList, covers x (pc + 10) = false := fun x hx => (htab x hx).elim
  have hRf : 5 < (gRm Γ).frames := by rw [C.2.2.2.1]; exact hfr
  have hRl : (st.map fun v => v.category).sum + 82 ≤ (gRm Γ).locals := by rw [C.2.2.2.1]; exact hlo
  have hRc : cs + 1 ≤ (gRm Γ).cells := by rw [C.2.2.2.1]; exact hcs
  have hRs : 6 * cs + 6 ≤ (gRm Γ).slots := by rw [C.2.2.2.1]; show 6 * cs + 6 ≤ 6 * mc'; omega
  intro T hT X
  have htr : (ge Γ).platform.stackTraces = false := (show (ge Γ).platform.stackTraces = (gl Γ).stackTraces by rw [X.admits.platform]).trans C.2.2.2.2
  have Y := vx_rebase X (R' := { frames := (gRm Γ).frames, locals := (gRm Γ).locals, cells := 1, slots := 6 }) (Nat.le_refl _) (Nat.le_refl _) hRc hRs
  obtain ⟨s', hA⟩ : ∃ z, z = (T.setVm (gs Γ).vm).setFrames (.invoking (gm Γ) (gar Γ) :: gbe Γ) := ⟨_, rfl⟩
  rw [← hA] at Y
  have hvm : s'.vm = (gs Γ).vm := by rw [hA]; rfl
  have hhp : s'.heap = H := by rw [hA]; exact hT
  have hW0 : (gs Γ).WarmedH s'.vm := by rw [hvm]; exact State.WarmedH.refl (gs Γ)
  have hat' : ∀ w ∈ (nsAt RX9 256).filter vx_no, w.before (gar Γ) s' = true := fun w hw => vx_ot_at hW0 hvm.symm (ns_ot w (List.mem_cons_of_mem _ (List.mem_cons_of_mem _ hw))) (hat w hw)
  have hk' : (Cond.classLink RX9 252 nsX).before (gar Γ) s' = true := vx_ot_at hW0 hvm.symm (ns_ot _ List.mem_cons_self) (C.1.2.2.2.2 _ ns_cl)
  have hini' : (Cond.initialized nsX).before (gar Γ) s' = true := vx_ot_at hW0 hvm.symm (ns_ot _ (List.mem_cons_of_mem _ List.mem_cons_self)) (C.1.2.2.2.2 _ ns_in)
  have hU' : vx_Zq Bundle.tN "UNASSIGNED_STACK" Bundle.steD (oA (gw Γ)) s' s'.heap := by rw [hhp]; exact vx_Zq.moved hW0.alike (C.2.1.2.2.1.kept hS.2.1)
  have hN' : vx_Zq Bundle.tN "SUPPRESSED_SENTINEL" Bundle.listD (oA (gw Γ)) s' s'.heap := by rw [hhp]; exact vx_Zq.moved hW0.alike (C.2.1.2.2.2.1.kept hS.2.1)
  have h : ∀ w ∈ nsAt RX9 256, w.before (gar Γ) s' = true := ns_own hat' (vx_isRefq hU'.1) (vx_isRefq hN'.1) hU'.2.word hN'.2.word
  have hown' : s'.vm.findClass RX9 = some (gm Γ).cls := by rw [hvm]; exact C.1.2.2.2.1
  have hins : (Cond.instantiable nsX 6).before (gar Γ) s' = true := h _ (by simp [nsAt])
  obtain ⟨vm₁, cX, kX, hfX, hkX, -, -, X₁, st1⟩ := Y.newCold hexec (own := RX9) (C := nsX) (index := 252) (n := 6) hown' hk' hins hini'
    (g := F0 (gm Γ) pc ls st) rfl (by rw [hb]; exact d0) (Nat.le_refl _) (Nat.le_refl _)
  generalize hT1 : (T.setVm vm₁).pushCell { cls := cX, slots := kX.instanceTypes.map defaultValue, vm := .none } = T1 at X₁ st1
  have hcat : (Value.ref T.heap.size).category = 1 := rfl
  have hcellA : T1.heap[T.heap.size]? = some (freshCell cX kX) := by rw [← hT1]; exact State.heap_pushCell_size _ _
  have d3' : decode (gc Γ).code (pc + 3) = .ok (.dup, 1) := by rw [hb]; exact d3
  have d4' : decode (gc Γ).code (pc + 4) = .ok (.ldc_w is, 3) := by rw [hb]; exact d4
  have hstr' : vk_R RX9 is tx (oK (gw Γ) n) s' := vk_R.warm hW0 (C.2.1.2.2.2.2.1 _ hstr)
  obtain ⟨U, hsteps, hrun, hend, hW, hsame, ce, hce, hOc, hOv⟩ := ns_ctorThrow X₁ hexec htr (own := RX9) (ic := 256) hown' h (fun x hx => nomatch hx) hfX hkX hcellA (by rw [hhp, hT]; exact Nat.le_refl _) (msg := .ref (oK (gw Γ) n)) rfl
    (g := { method := gm Γ, pc := pc + 7, locals := ls, stack := .ref (oK (gw Γ) n) :: .ref T.heap.size :: .ref T.heap.size :: st, locked := none }) rfl hsize rfl rfl (rest := st) rfl
    (by rw [hb]; exact d6) (by rw [hb]; exact d9) hout hRf (by simp only [List.map_cons, List.sum_cons, hcat]; omega) C.2.2.1
  obtain ⟨f1, f2⟩ := vx_frame hsame
  rw [hhp] at f1 f2
  have hWs : (gs Γ).WarmedH U.vm := State.WarmedH.trans hW0 hW
  have hcl : (gs Γ).vm.findClass nsX = some ce.cls := by
    rw [hvm] at hOc
    exact hOc
  have hall : (gs Γ).sameButNew ({ U with vm := (gs Γ).vm } : State) locs mc' (6 * mc') := by
    subst hA
    obtain ⟨e1, e2⟩ := hsame
    rw [State.setFrames_setFrames] at e1
    have h2 : (T.setVm (gs Γ).vm).sameButNew ({ U with vm := (gs Γ).vm } : State) [] (0 + 1) (0 + 6) := ⟨e1, e2⟩
    have h3 := X.same.trans h2
    rw [List.append_nil] at h3
    exact h3.mono hcs (by omega)
  have hk9 : ∀ q : Nat, q < H.size → U.heap[q]? = H[q]? := fun q hq => f2 q hq (fun z hz => nomatch hz)
  have hXC : XC (exN 3) (gs Γ) U := by
    refine hx U ⟨va_P.kept hw.1 (fun k q hq => hk9 _ (va_at.lt (hw.1 k q hq))), hw.2⟩ ⟨Nat.le_trans hS.1 f1, fun q hq hA9 => ?_⟩
    rw [hk9 q (Nat.lt_of_lt_of_le hq hS.1)]
    exact hS.2.1 q hq hA9
  refine ⟨U, ?_, .threw T.heap.size, hrun, hend, Or.inr ⟨T.heap.size, rfl, exN 3, ce, locs, hXC, hce, hOv, hcl, hWs, hall, fun z hz => hS.2.2 z hz⟩⟩
  refine st1 _ ?_
  show Steps (gp Γ).tables (ge Γ) (gbe Γ) (T1.setTop { method := gm Γ, pc := pc + 3, locals := ls, stack := .ref T.heap.size :: st, locked := none }) _
  jvm_step X₁.here [X₁.here.top, hexec, d3', Value.category]
  exact X₁.ldcStringW hexec (own := RX9) (text := tx) (index := is) (a := oK (gw Γ) n) hown' hstr'.1 hstr'.2
    (g := { method := gm Γ, pc := pc + 4, locals := ls, stack := .ref T.heap.size :: .ref T.heap.size :: st, locked := none }) rfl d4' _ hsteps
end NSR

