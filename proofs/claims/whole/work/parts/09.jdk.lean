/-! the JDK's own methods that the class reaches: length() and charAt() of the ten words -/
theorem kj_0 : Cond.instanceMethod yJ0_length_8abf5 ∈ TT := tt 645 (by decide +kernel) (by decide +kernel)
theorem kj_1 : Cond.selects RJ0 yJ0_length_8abf5 yJ0_length_8abf5 ∈ TT := tt 646 (by decide +kernel) (by decide +kernel)
theorem kj_2 : Cond.initialized RJ0 ∈ TT := tt 110 (by decide +kernel) (by decide +kernel)
theorem kj_3 : Cond.code yJ0_length_8abf5 cJ0_length_8abf5 1 (some .int) ∈ TT := tt 647 (by decide +kernel) (by decide +kernel)
theorem kj_4 : Cond.instanceMethod yJ0_charAt_5068e ∈ TT := tt 655 (by decide +kernel) (by decide +kernel)
theorem kj_5 : Cond.selects RJ0 yJ0_charAt_5068e yJ0_charAt_5068e ∈ TT := tt 656 (by decide +kernel) (by decide +kernel)
theorem kj_6 : Cond.code yJ0_charAt_5068e cJ0_charAt_5068e 2 (some .char) ∈ TT := tt 657 (by decide +kernel) (by decide +kernel)
theorem kj_7 : Cond.instanceMethod yJ0_coder_7d493 ∈ TT := tt 649 (by decide +kernel) (by decide +kernel)
theorem kj_8 : Cond.selects RJ0 yJ0_coder_7d493 yJ0_coder_7d493 ∈ TT := tt 650 (by decide +kernel) (by decide +kernel)
theorem kj_9 : Cond.code yJ0_coder_7d493 cJ0_coder_7d493 1 (some .byte) ∈ TT := tt 651 (by decide +kernel) (by decide +kernel)
theorem kj_10 : Cond.instanceMethod yJ0_isLatin1_aae02 ∈ TT := tt 659 (by decide +kernel) (by decide +kernel)
theorem kj_11 : Cond.selects RJ0 yJ0_isLatin1_aae02 yJ0_isLatin1_aae02 ∈ TT := tt 660 (by decide +kernel) (by decide +kernel)
theorem kj_12 : Cond.code yJ0_isLatin1_aae02 cJ0_isLatin1_aae02 1 (some .boolean) ∈ TT := tt 661 (by decide +kernel) (by decide +kernel)
theorem kj_13 : Cond.static yJ0_checkIndex_df160 ∈ TT := tt 666 (by decide +kernel) (by decide +kernel)
theorem kj_14 : Cond.code yJ0_checkIndex_df160 cJ0_checkIndex_df160 2 none ∈ TT := tt 667 (by decide +kernel) (by decide +kernel)
theorem kj_15 : Cond.static yJ1_charAt_3b067 ∈ TT := tt 663 (by decide +kernel) (by decide +kernel)
theorem kj_16 : Cond.initialized RJ1 ∈ TT := tt 111 (by decide +kernel) (by decide +kernel)
theorem kj_17 : Cond.code yJ1_charAt_3b067 cJ1_charAt_3b067 2 (some .char) ∈ TT := tt 664 (by decide +kernel) (by decide +kernel)
theorem kj_18 : Cond.static yJ3_checkIndex_8e157 ∈ TT := tt 671 (by decide +kernel) (by decide +kernel)
theorem kj_19 : Cond.initialized RJ3 ∈ TT := tt 112 (by decide +kernel) (by decide +kernel)
theorem kj_20 : Cond.code yJ3_checkIndex_8e157 cJ3_checkIndex_8e157 3 (some .int) ∈ TT := tt 672 (by decide +kernel) (by decide +kernel)
theorem kj_21 : Cond.fieldLink RJ0 9 "java/lang/String" "value" "[B" ∈ TT := tt 1759 (by decide +kernel) (by decide +kernel)
theorem kj_22 : Cond.fieldLink RJ0 15 "java/lang/String" "coder" "B" ∈ TT := tt 1760 (by decide +kernel) (by decide +kernel)
theorem kj_23 : Cond.fieldLink RJ0 38 "java/lang/String" "COMPACT_STRINGS" "Z" ∈ TT := tt 652 (by decide +kernel) (by decide +kernel)
theorem kj_24 : Cond.fieldLink RJ0 1053 "jdk/internal/util/Preconditions" "SIOOBE_FORMATTER" "Ljava/util/function/BiFunction;" ∈ TT := tt 668 (by decide +kernel) (by decide +kernel)
theorem kj_25 : Cond.methodLink RJ0 335 yJ0_coder_7d493 ∈ TT := tt 648 (by decide +kernel) (by decide +kernel)
theorem kj_26 : Cond.methodLink RJ0 492 yJ0_isLatin1_aae02 ∈ TT := tt 658 (by decide +kernel) (by decide +kernel)
theorem kj_27 : Cond.methodLink RJ0 495 yJ1_charAt_3b067 ∈ TT := tt 662 (by decide +kernel) (by decide +kernel)
theorem kj_28 : Cond.methodLink RJ1 9 yJ0_checkIndex_df160 ∈ TT := tt 665 (by decide +kernel) (by decide +kernel)
theorem kj_29 : Cond.methodLink RJ0 1059 yJ3_checkIndex_8e157 ∈ TT := tt 670 (by decide +kernel) (by decide +kernel)
theorem mfj_J0_length_8abf5 : MFv yJ0_length_8abf5 RJ0 cJ0_length_8abf5 1 (some .int) 0 := ⟨kj_0, kj_1, kj_2, kj_3, rfl, by decide, by decide, by decide +kernel⟩
theorem mfj_J0_charAt_5068e : MFv yJ0_charAt_5068e RJ0 cJ0_charAt_5068e 2 (some .char) 1 := ⟨kj_4, kj_5, kj_2, kj_6, rfl, by decide, by decide, by decide +kernel⟩
theorem mfj_J0_coder_7d493 : MFv yJ0_coder_7d493 RJ0 cJ0_coder_7d493 1 (some .byte) 0 := ⟨kj_7, kj_8, kj_2, kj_9, rfl, by decide, by decide, by decide +kernel⟩
theorem mfj_J0_isLatin1_aae02 : MFv yJ0_isLatin1_aae02 RJ0 cJ0_isLatin1_aae02 1 (some .boolean) 0 := ⟨kj_10, kj_11, kj_2, kj_12, rfl, by decide, by decide, by decide +kernel⟩
theorem mfj_J0_checkIndex_df160 : MFs yJ0_checkIndex_df160 RJ0 cJ0_checkIndex_df160 2 none 2 := ⟨kj_13, kj_2, kj_14, rfl, by decide, by decide, by decide +kernel⟩
theorem mfj_J1_charAt_3b067 : MFs yJ1_charAt_3b067 RJ1 cJ1_charAt_3b067 2 (some .char) 2 := ⟨kj_15, kj_16, kj_17, rfl, by decide, by decide, by decide +kernel⟩
theorem mfj_J3_checkIndex_8e157 : MFs yJ3_checkIndex_8e157 RJ3 cJ3_checkIndex_8e157 3 (some .int) 3 := ⟨kj_18, kj_19, kj_20, rfl, by decide, by decide, by decide +kernel⟩
theorem KIr_of {l : Launch} {y : MethodName} {bytes : ByteArray} {maxL fr lo : Nat} {w : Om} {av : List Value} {m m' : Mem} {x : Int32} {ty : FieldType} (hn : narrow ty (.int x) = .int x) (hst : l.stackTraces = false) (hy : plainFor y = true) (own : String) (ho : y.cls = own) (hlen : (lg_sl av).length ≤ maxL)
    (body : ∀ Γ : Gc, gw Γ = w → gl Γ = l → Cx Γ bytes maxL own (rmK fr lo 0) → RI Γ maxL bytes 0 x m' → G Γ maxL 0 m 0 (lv_args 0 av) []) : KI l y bytes maxL (some ty) fr lo w av m x m' := by
  refine va_MetF (cc := bytes) (maxL := maxL) (ret := (some ty)) hy rfl ?_
  intro p e s m0 args below meth c s₁ B hml hv
  obtain ⟨rfl, hw, hx⟩ := hv
  have hts := atoms_spec (ws := wsK y bytes maxL (some ty)) B.pre
  have hown := findClass_of_methodNamed B.named
  rw [ho] at hown
  have hG := body (p, l, e, (headSpec (wsK y bytes maxL (some ty)) (rmK fr lo 0)).room, s, m0, av.toArray, below, meth, c, w, MQ below (va_Qi (fun r (_ : Unit) => r = x) (fun _ t => Wp w m' t.heap) (oA w)) av.toArray s 0 0 (oA w)) rfl rfl ⟨⟨B.exec, B.bytes, hml, hown, fun w hw => hts w (List.mem_cons_of_mem _ hw)⟩, hx, B.notSynchronized, rfl, hst⟩
    (fun pc lv hd H locs ls hl hw hS => W.zret B.exec B.bytes B.returns hn (fun t ht hW => ⟨⟨x, (), rfl, rfl, by show Wp w m' t.heap; rw [ht]; exact hw⟩, hS.F ht⟩) (fun q hq => hS.2.2 q hq) hd B.notSynchronized)
  rw [lg_entry_eq]
  exact hG s.heap [] _ (lv_entry av hlen) hw va_S.rf
section JDK
variable {Γ : Gc} {cc : ByteArray} {nL cs pc : Nat} {own : String} {rm : Room} {mem : Mem} {lv : List (Nat × Value)} {st : List Value} {idx i : Nat}
theorem g_sval (C : Cx Γ cc nL own rm) (hi : i < nST) (hd : decode cc pc = .ok (.getfield idx, 3)) (h1 : Cond.fieldLink own idx "java/lang/String" "value" "[B" ∈ TT) (k : G Γ nL cs mem (pc + 3) lv (.ref (oV (gw Γ) i) :: st)) : G Γ nL cs mem pc lv (.ref (oK (gw Γ) i) :: st) := fun H locs ls hl hw hS => vk_getf C.1.1 C.1.2.1 (C.2.1.2.2.2.2.2.1.2 i hi).2.2.1 hS C.1.2.2.2.1 (C.1.2.2.2.2 _ h1) (fun _ h => h) hd (k H locs ls hl hw hS)
theorem g_scod (C : Cx Γ cc nL own rm) (hi : i < nST) (hd : decode cc pc = .ok (.getfield idx, 3)) (h1 : Cond.fieldLink own idx "java/lang/String" "coder" "B" ∈ TT) (k : G Γ nL cs mem (pc + 3) lv (.int 0 :: st)) : G Γ nL cs mem pc lv (.ref (oK (gw Γ) i) :: st) := fun H locs ls hl hw hS => vk_getf C.1.1 C.1.2.1 (C.2.1.2.2.2.2.2.1.2 i hi).2.1 hS C.1.2.2.2.1 (C.1.2.2.2.2 _ h1) (fun _ h => h) hd (k H locs ls hl hw hS)
theorem g_scs (C : Cx Γ cc nL own rm) (hd : decode cc pc = .ok (.getstatic idx, 3)) (h1 : Cond.fieldLink own idx "java/lang/String" "COMPACT_STRINGS" "Z" ∈ TT) (k : G Γ nL cs mem (pc + 3) lv (.int 1 :: st)) : G Γ nL cs mem pc lv st := fun H locs ls hl hw hS => va_gets C.1.1 C.1.2.1 C.2.1.2.2.2.2.2.2.1 hS C.1.2.2.2.1 (C.1.2.2.2.2 _ h1) (fun _ h => h) hd (k H locs ls hl hw hS)
theorem g_sfm (C : Cx Γ cc nL own rm) (hd : decode cc pc = .ok (.getstatic idx, 3)) (h1 : Cond.fieldLink own idx "jdk/internal/util/Preconditions" "SIOOBE_FORMATTER" "Ljava/util/function/BiFunction;" ∈ TT) (k : ∀ v : Value, v.category = 1 → G Γ nL cs mem (pc + 3) lv (v :: st)) : G Γ nL cs mem pc lv st := by
  intro H locs ls hl hw hS
  rcases C.2.1.2.2.2.2.2.1.1 with hZ | ⟨t, hZ⟩
  · exact va_gets C.1.1 C.1.2.1 hZ hS C.1.2.2.2.1 (C.1.2.2.2.2 _ h1) (fun _ h => h) hd (k .null rfl H locs ls hl hw hS)
  · exact va_gets C.1.1 C.1.2.1 hZ hS C.1.2.2.2.1 (C.1.2.2.2.2 _ h1) (fun _ h => h) hd (k (.ref t) rfl H locs ls hl hw hS)
theorem g_slenB (C : Cx Γ cc nL own rm) (hi : i < nST) (hd : decode cc pc = .ok (.arraylength, 1)) (k : G Γ nL cs mem (pc + 1) lv (.int (Int32.ofNat (lenST.getD i 0)) :: st)) : G Γ nL cs mem pc lv (.ref (oV (gw Γ) i) :: st) := fun H locs ls hl hw hS => va_tlen C.1.1 C.1.2.1 (C.2.1.2.2.2.2.2.1.2 i hi).2.2.2 hS rfl hd (k H locs ls hl hw hS)
theorem g_sbald {q : Int32} (C : Cx Γ cc nL own rm) (hi : i < nST) (hq : inb q (lenST.getD i 0) = true) (hd : decode cc pc = .ok (.baload, 1)) (k : G Γ nL cs mem (pc + 1) lv (.int ((bytST.getD i []).getD q.toNatClampNeg 0) :: st)) : G Γ nL cs mem pc lv (.int q :: .ref (oV (gw Γ) i) :: st) := fun H locs ls hl hw hS => va_tb C.1.1 C.1.2.1 (C.2.1.2.2.2.2.2.1.2 i hi).2.2.2 hS (inb_vp hq) rfl hd (k H locs ls hl hw hS)
theorem g_i2c {x v : Int32} (C : Cx Γ cc nL own rm) (hd : decode cc pc = .ok (.i2c, 1)) (hv : (x.toUInt32 % 65536).toInt32 = v) (k : G Γ nL cs mem (pc + 1) lv (.int v :: st)) : G Γ nL cs mem pc lv (.int x :: st) := fun H locs ls hl hw hS => lv_i2c C.1.1 C.1.2.1 hd hv (k H locs ls hl hw hS)
theorem g_svI {y : MethodName} {bytes : ByteArray} {maxL n fr' lo' fr lo mc : Nat} {ret : Option FieldType} {As stk : List Value} {m' : Mem} {x : Int32} (C : Cx Γ cc nL own (rmK fr lo mc)) (hi : i < nST) (hd : decode cc pc = .ok (.invokevirtual idx, 3)) (F : MFv y "java/lang/String" bytes maxL ret n) (h1 : Cond.methodLink own idx y ∈ TT) (hR : fr' + 1 ≤ fr ∧ 8 + (maxL + 11) + lo' ≤ lo) (hn : As.length = n) (hst : stk = As.reverse ++ .ref (oK (gw Γ) i) :: st) (hW : (st.map fun v => v.category).sum ≤ 8) (hcs : cs ≤ mc) (hM : KI (gl Γ) y bytes maxL ret fr' lo' (gw Γ) (.ref (oK (gw Γ) i) :: As) mem x m') (k : G Γ nL cs m' (pc + 3) lv (.int x :: st)) : G Γ nL cs mem pc lv stk := by
  intro H locs ls hl hw hS
  have hrecv : ∃ cell : Cell, H[oK (gw Γ) i]? = some cell ∧ cell.vm.isStatics = false ∧ (gs Γ).vm.findClass "java/lang/String" = some cell.cls := by
    obtain ⟨cell, h1, h2, h3, -⟩ := (C.2.1.2.2.2.2.2.1.2 i hi).1.kept hS.2.1
    exact ⟨cell, h1, h2, h3⟩
  subst hst
  refine va_calli (va_runV (As := As) (rest := st) C.1 hM (cwV n C.1.2.2.2.2 (gi_V F h1) rfl rfl rfl F.2.2.2.2 ⟨by rw [C.2.2.2.1]; exact hR.1, by rw [C.2.2.2.1]; exact hR.2⟩) ⟨Wd.blind _, hrecv, fun U hU hWm => ⟨rfl, by rw [hU]; exact hw, C.2.1.move hS hU hWm⟩⟩ rfl hn hl.1 rfl (lv_room hW) hd ⟨by rw [C.2.2.2.1]; exact hcs, by rw [C.2.2.2.1]; exact Nat.mul_le_mul_left 6 hcs⟩) hS (fun q _ h => h) (fun q h => h) (fun r u t H1 locs1 ht hvm hpost hB hsz hkeep hS1 => ?_)
  subst hpost
  rw [ht] at hB
  exact k H1 locs1 ls hl hB hS1
end JDK
theorem cj_coder (l : Launch) (hst : l.stackTraces = false) (w : Om) (i : Nat) (hi : i < nST) (m : Mem) : KI l yJ0_coder_7d493 cJ0_coder_7d493 1 (some .byte) 0 0 w [.ref (oK w i)] m 0 m := KIr_of (by decide) hst (by decide +kernel) RJ0 rfl (Nat.le_of_ble_eq_true rfl) (fun Γ hw hl C hE => by
  subst hw; subst hl
  refine g_scs C dJ0_coder_7d493_0 kj_23 ?_
  refine g_if_eq (tgt := 13) C dJ0_coder_7d493_3 (by decide) (fun h9 => absurd h9 (by decide)) (fun _ => ?_)
  refine g_aload_n C dJ0_coder_7d493_6 0 rfl rfl ?_
  refine g_scod C hi dJ0_coder_7d493_7 kj_22 ?_
  refine g_goto (tgt := 14) C dJ0_coder_7d493_10 (by decide) ?_
  exact hE 14 _ dJ0_coder_7d493_14)
theorem cj_latin (l : Launch) (hst : l.stackTraces = false) (w : Om) (i : Nat) (hi : i < nST) (m : Mem) : KI l yJ0_isLatin1_aae02 cJ0_isLatin1_aae02 1 (some .boolean) 0 0 w [.ref (oK w i)] m 1 m := KIr_of (by decide) hst (by decide +kernel) RJ0 rfl (Nat.le_of_ble_eq_true rfl) (fun Γ hw hl C hE => by
  subst hw; subst hl
  refine g_scs C dJ0_isLatin1_aae02_0 kj_23 ?_
  refine g_if_eq (tgt := 17) C dJ0_isLatin1_aae02_3 (by decide) (fun h9 => absurd h9 (by decide)) (fun _ => ?_)
  refine g_aload_n C dJ0_isLatin1_aae02_6 0 rfl rfl ?_
  refine g_scod C hi dJ0_isLatin1_aae02_7 kj_22 ?_
  refine g_if_ne (tgt := 17) C dJ0_isLatin1_aae02_10 (by decide) (fun h9 => absurd rfl h9) (fun _ => ?_)
  refine g_iconst (v := (1 : Int32)) C dJ0_isLatin1_aae02_13 (by decide) ?_
  refine g_goto (tgt := 18) C dJ0_isLatin1_aae02_14 (by decide) ?_
  exact hE 18 _ dJ0_isLatin1_aae02_18)
theorem strL_ok : ∀ i, i < nST → Int32.ofNat (lenST.getD i 0) >>> ((0 : Int32) &&& 31) = strL i := by decide +kernel
theorem cj_length (l : Launch) (hst : l.stackTraces = false) (w : Om) (i : Nat) (hi : i < nST) (m : Mem) : KI l yJ0_length_8abf5 cJ0_length_8abf5 1 (some .int) 1 20 w [.ref (oK w i)] m (strL i) m := KIr_of rfl hst (by decide +kernel) RJ0 rfl (Nat.le_of_ble_eq_true rfl) (fun Γ hw hl C hE => by
  subst hw; subst hl
  refine g_aload_n C dJ0_length_8abf5_0 0 rfl rfl ?_
  refine g_sval C hi dJ0_length_8abf5_1 kj_21 ?_
  refine g_slenB C hi dJ0_length_8abf5_4 ?_
  refine g_aload_n C dJ0_length_8abf5_5 0 rfl rfl ?_
  refine g_svI (As := []) C hi dJ0_length_8abf5_6 mfj_J0_coder_7d493 kj_25 ⟨by decide, by decide⟩ rfl rfl (Nat.le_of_ble_eq_true rfl) (by decide) (cj_coder (gl Γ) C.2.2.2.2 (gw Γ) i hi m) ?_
  refine g_ishr C dJ0_length_8abf5_9 ?_
  rw [strL_ok i hi]
  exact hE 10 _ dJ0_length_8abf5_10)
theorem cj_ck3 (l : Launch) (hst : l.stackTraces = false) (w : Om) (q n : Int32) (v : Value) (hv : v.category = 1) (h1 : ¬ q < 0) (h2 : q < n) (m : Mem) : KI l yJ3_checkIndex_8e157 cJ3_checkIndex_8e157 3 (some .int) 0 0 w [.int q, .int n, v] m q m := KIr_of rfl hst (by decide +kernel) RJ3 rfl (by simp [lg_sl, hv, Value.category]) (fun Γ hw hl C hE => by
  subst hw; subst hl
  refine g_iload_n C dJ3_checkIndex_8e157_0 0 rfl rfl ?_
  refine g_if_lt (tgt := 9) C dJ3_checkIndex_8e157_1 (by decide) (fun h9 => absurd h9 h1) (fun _ => ?_)
  refine g_iload_n C dJ3_checkIndex_8e157_4 0 rfl rfl ?_
  refine g_iload_n C dJ3_checkIndex_8e157_5 1 rfl rfl ?_
  refine g_icmp_lt (tgt := 16) C dJ3_checkIndex_8e157_6 (by decide) (fun _ => ?_) (fun h9 => absurd h2 h9)
  refine g_iload_n C dJ3_checkIndex_8e157_16 0 rfl rfl ?_
  exact hE 17 _ dJ3_checkIndex_8e157_17)
theorem cj_cki (l : Launch) (hst : l.stackTraces = false) (w : Om) (q n : Int32) (h1 : ¬ q < 0) (h2 : q < n) (m : Mem) : KV l yJ0_checkIndex_df160 cJ0_checkIndex_df160 2 none 1 22 w [.int q, .int n] m m := KVF_of hst (by decide +kernel) RJ0 rfl (Nat.le_of_ble_eq_true rfl) (fun Γ hw hl C hE => by
  subst hw; subst hl
  refine g_iload_n C dJ0_checkIndex_df160_0 0 rfl rfl ?_
  refine g_iload_n C dJ0_checkIndex_df160_1 1 rfl rfl ?_
  refine g_sfm C dJ0_checkIndex_df160_2 kj_24 (fun v hv => ?_)
  refine g_sI (As := [.int q, .int n, v]) C dJ0_checkIndex_df160_5 mfj_J3_checkIndex_8e157 kj_29 ⟨by decide, by decide⟩ rfl rfl (Nat.le_of_ble_eq_true rfl) (by decide) (cj_ck3 (gl Γ) C.2.2.2.2 (gw Γ) q n v hv h1 h2 m) ?_
  refine g_pop C dJ0_checkIndex_df160_8 rfl ?_
  exact hE 9 _ dJ0_checkIndex_df160_9)
theorem strC_ok : ∀ i, i < nST → ∀ k, k < lenST.getD i 0 → ((((bytST.getD i []).getD k 0 &&& 255).toUInt32 % 65536).toInt32 = (bytST.getD i []).getD k 0 ∧ narrow .char (.int ((bytST.getD i []).getD k 0)) = .int ((bytST.getD i []).getD k 0)) := by decide +kernel
theorem lenST_lt : ∀ i, i < nST → lenST.getD i 0 < 100 := by decide +kernel
theorem inb_lt {q : Int32} {n : Nat} (h : inb q n = true) (hn : n < 2 ^ 31) : ¬ q < 0 ∧ q < Int32.ofNat n ∧ q.toNatClampNeg < n := by
  have hv := inb_vp h
  obtain ⟨j, hj, rfl⟩ := vp_in_of hv hn
  refine ⟨nI_pos (by omega), nI_lt hj hn, ?_⟩
  rw [nI_clamp (by omega)]
  exact hj
theorem cj_ch1 (l : Launch) (hst : l.stackTraces = false) (w : Om) (i : Nat) (hi : i < nST) (q : Int32) (hq : inb q (lenST.getD i 0) = true) (m : Mem) : KI l yJ1_charAt_3b067 cJ1_charAt_3b067 2 (some .char) 2 50 w [.ref (oV w i), .int q] m (strC i q) m := by
  obtain ⟨h1, h2, h3⟩ := inb_lt hq (Nat.lt_trans (lenST_lt i hi) (by decide))
  obtain ⟨h4, h5⟩ := strC_ok i hi _ h3
  exact KIr_of h5 hst (by decide +kernel) RJ1 rfl (Nat.le_of_ble_eq_true rfl) (fun Γ hw hl C hE => by
  subst hw; subst hl
  refine g_iload_n C dJ1_charAt_3b067_0 1 rfl rfl ?_
  refine g_aload_n C dJ1_charAt_3b067_1 0 rfl rfl ?_
  refine g_slenB C hi dJ1_charAt_3b067_2 ?_
  refine g_sV (As := [.int q, .int (Int32.ofNat (lenST.getD i 0))]) C dJ1_charAt_3b067_3 mfj_J0_checkIndex_df160 kj_28 ⟨by decide, by decide⟩ rfl rfl (Nat.le_of_ble_eq_true rfl) (by decide) (cj_cki (gl Γ) C.2.2.2.2 (gw Γ) q _ h1 h2 m) ?_
  refine g_aload_n C dJ1_charAt_3b067_6 0 rfl rfl ?_
  refine g_iload_n C dJ1_charAt_3b067_7 1 rfl rfl ?_
  refine g_sbald C hi hq dJ1_charAt_3b067_8 ?_
  refine g_sipush (v := (255 : Int32)) C dJ1_charAt_3b067_9 (by decide) ?_
  refine g_iand C dJ1_charAt_3b067_12 ?_
  refine g_i2c C dJ1_charAt_3b067_13 h4 ?_
  exact hE 14 _ dJ1_charAt_3b067_14)
theorem cj_charAt (l : Launch) (hst : l.stackTraces = false) (w : Om) (i : Nat) (hi : i < nST) (q : Int32) (hq : inb q (lenST.getD i 0) = true) (m : Mem) : KI l yJ0_charAt_5068e cJ0_charAt_5068e 2 (some .char) 3 75 w [.ref (oK w i), .int q] m (strC i q) m := by
  obtain ⟨h1, h2, h3⟩ := inb_lt hq (Nat.lt_trans (lenST_lt i hi) (by decide))
  obtain ⟨h4, h5⟩ := strC_ok i hi _ h3
  exact KIr_of h5 hst (by decide +kernel) RJ0 rfl (Nat.le_of_ble_eq_true rfl) (fun Γ hw hl C hE => by
  subst hw; subst hl
  refine g_aload_n C dJ0_charAt_5068e_0 0 rfl rfl ?_
  refine g_svI (As := []) C hi dJ0_charAt_5068e_1 mfj_J0_isLatin1_aae02 kj_26 ⟨by decide, by decide⟩ rfl rfl (Nat.le_of_ble_eq_true rfl) (by decide) (cj_latin (gl Γ) C.2.2.2.2 (gw Γ) i hi m) ?_
  refine g_if_eq (tgt := 16) C dJ0_charAt_5068e_4 (by decide) (fun h9 => absurd h9 (by decide)) (fun _ => ?_)
  refine g_aload_n C dJ0_charAt_5068e_7 0 rfl rfl ?_
  refine g_sval C hi dJ0_charAt_5068e_8 kj_21 ?_
  refine g_iload_n C dJ0_charAt_5068e_11 1 rfl rfl ?_
  refine g_sI (As := [.ref (oV (gw Γ) i), .int q]) C dJ0_charAt_5068e_12 mfj_J1_charAt_3b067 kj_27 ⟨by decide, by decide⟩ rfl rfl (Nat.le_of_ble_eq_true rfl) (by decide) (cj_ch1 (gl Γ) C.2.2.2.2 (gw Γ) i hi q hq m) ?_
  exact hE 15 _ dJ0_charAt_5068e_15)
section JDK2
variable {Γ : Gc} {cc : ByteArray} {nL cs pc : Nat} {own : String} {mem : Mem} {lv : List (Nat × Value)} {st : List Value} {fr lo mc idx : Nat}
theorem g_strlen {i : Nat} (C : Cx Γ cc nL own (rmK fr lo mc)) (hd : decode cc pc = .ok (.invokevirtual idx, 3)) (h1 : Cond.methodLink own idx yJ0_length_8abf5 ∈ TT) (hfr : 4 ≤ fr) (hlo : 120 ≤ lo) (hW : (st.map fun v => v.category).sum ≤ 8) (hcs : cs ≤ mc) (hi : decide (i < nST) = true) (k : G Γ nL cs mem (pc + 3) lv (.int (strL i) :: st)) : G Γ nL cs mem pc lv (.ref (oK (gw Γ) i) :: st) := g_svI (As := []) C (of_decide_eq_true hi) hd mfj_J0_length_8abf5 h1 ⟨by omega, by omega⟩ rfl rfl hW hcs (cj_length (gl Γ) C.2.2.2.2 (gw Γ) i (of_decide_eq_true hi) mem) k
theorem okS_d {i : Nat} {q : Int32} (h : okS i q = true) : i < nST ∧ inb q (lenST.getD i 0) = true := by
  simp only [okS, Bool.and_eq_true, decide_eq_true_eq] at h
  exact h
theorem g_charAt {i : Nat} {q : Int32} (C : Cx Γ cc nL own (rmK fr lo mc)) (hd : decode cc pc = .ok (.invokevirtual idx, 3)) (h1 : Cond.methodLink own idx yJ0_charAt_5068e ∈ TT) (hfr : 5 ≤ fr) (hlo : 160 ≤ lo) (hW : (st.map fun v => v.category).sum ≤ 8) (hcs : cs ≤ mc) (hi : okS i q = true) (k : G Γ nL cs mem (pc + 3) lv (.int (strC i q) :: st)) : G Γ nL cs mem pc lv (.int q :: .ref (oK (gw Γ) i) :: st) := g_svI (As := [.int q]) C (okS_d hi).1 hd mfj_J0_charAt_5068e h1 ⟨by omega, by omega⟩ rfl rfl hW hcs (cj_charAt (gl Γ) C.2.2.2.2 (gw Γ) i (okS_d hi).1 q (okS_d hi).2 mem) k
end JDK2
section NS
variable {Γ : Gc} {cc : ByteArray} {nL cs pc : Nat} {own : String} {mem : Mem} {lv : List (Nat × Value)} {st : List Value} {fr lo mc idx : Nat}
theorem g_throwN {is n : Nat} {tx : String} (C : Cx Γ cc nL RX9 (rmK fr lo mc)) (d0 : decode cc pc = .ok (.new 252, 3)) (d3 : decode cc (pc + 3) = .ok (.dup, 1)) (d4 : decode cc (pc + 4) = .ok (.ldc is, 2)) (d6 : decode cc (pc + 6) = .ok (.invokespecial 256, 3)) (d9 : decode cc (pc + 9) = .ok (.athrow, 1)) (hstr : (RX9, is, tx, n) ∈ strW) (hfr : 5 < fr) (hlo : (st.map fun v => v.category).sum + 82 ≤ lo) (hcs : cs + 1 ≤ mc) (hX : RX Γ 3 mem) : G Γ nL cs mem pc lv st := sorry
theorem g_throwNW {is n : Nat} {tx : String} (C : Cx Γ cc nL RX9 (rmK fr lo mc)) (d0 : decode cc pc = .ok (.new 252, 3)) (d3 : decode cc (pc + 3) = .ok (.dup, 1)) (d4 : decode cc (pc + 4) = .ok (.ldc_w is, 3)) (d6 : decode cc (pc + 7) = .ok (.invokespecial 256, 3)) (d9 : decode cc (pc + 10) = .ok (.athrow, 1)) (hstr : (RX9, is, tx, n) ∈ strW) (hfr : 5 < fr) (hlo : (st.map fun v => v.category).sum + 82 ≤ lo) (hcs : cs + 1 ≤ mc) (hX : RX Γ 3 mem) : G Γ nL cs mem pc lv st := sorry
end NS
