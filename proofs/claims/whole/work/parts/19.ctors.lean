/-! the constructors -/
theorem k_1150 : Cond.instanceMethod Lib.objectInit ∈ TT := tt 125 (by decide +kernel) (by decide +kernel)
theorem k_1151 : Cond.code Lib.objectInit ⟨#[0xb1]⟩ 1 none ∈ TT := tt 126 (by decide +kernel) (by decide +kernel)
theorem k_1152 : Cond.methodLink RX7 3 Lib.objectInit ∈ TT := tt 167 (by decide +kernel) (by decide +kernel)
theorem k_1153 : Cond.arrayClass FieldType.int ∈ TT := tt 183 (by decide +kernel) (by decide +kernel)
theorem k_1154 : Cond.instanceMethod yX7_init ∈ TT := tt 165 (by decide +kernel) (by decide +kernel)
theorem k_1155 : Cond.code yX7_init cX7_init 1 none ∈ TT := tt 166 (by decide +kernel) (by decide +kernel)
theorem k_1156 : Cond.methodLink RX8 3 Lib.objectInit ∈ TT := tt 132 (by decide +kernel) (by decide +kernel)
theorem k_1157 : Cond.arrayClass FieldType.byte ∈ TT := tt 161 (by decide +kernel) (by decide +kernel)
theorem k_1158 : Cond.instanceMethod yX8_init ∈ TT := tt 130 (by decide +kernel) (by decide +kernel)
theorem k_1159 : Cond.code yX8_init cX8_init 1 none ∈ TT := tt 131 (by decide +kernel) (by decide +kernel)
theorem k_1160 : Cond.methodLink RX0 1 Lib.objectInit ∈ TT := tt 325 (by decide +kernel) (by decide +kernel)
theorem k_1161 : Cond.instanceMethod yX0_init ∈ TT := tt 323 (by decide +kernel) (by decide +kernel)
theorem k_1162 : Cond.code yX0_init cX0_init 1 none ∈ TT := tt 324 (by decide +kernel) (by decide +kernel)
theorem k_1163 : Cond.methodLink RX1 3 Lib.objectInit ∈ TT := tt 254 (by decide +kernel) (by decide +kernel)
theorem k_1164 : Cond.instanceMethod yX1_init ∈ TT := tt 252 (by decide +kernel) (by decide +kernel)
theorem k_1165 : Cond.code yX1_init cX1_init 1 none ∈ TT := tt 253 (by decide +kernel) (by decide +kernel)
theorem k_1166 : Cond.methodLink RX4 3 Lib.objectInit ∈ TT := tt 273 (by decide +kernel) (by decide +kernel)
theorem k_1167 : Cond.arrayClass FieldType.boolean ∈ TT := tt 313 (by decide +kernel) (by decide +kernel)
theorem k_1168 : Cond.instanceMethod yX4_init ∈ TT := tt 271 (by decide +kernel) (by decide +kernel)
theorem k_1169 : Cond.code yX4_init cX4_init 1 none ∈ TT := tt 272 (by decide +kernel) (by decide +kernel)
theorem k_1170 : Cond.methodLink RX5 3 Lib.objectInit ∈ TT := tt 209 (by decide +kernel) (by decide +kernel)
theorem k_1171 : Cond.instanceMethod yX5_init ∈ TT := tt 207 (by decide +kernel) (by decide +kernel)
theorem k_1172 : Cond.code yX5_init cX5_init 1 none ∈ TT := tt 208 (by decide +kernel) (by decide +kernel)
theorem k_1173 : Cond.methodLink RX6 3 Lib.objectInit ∈ TT := tt 363 (by decide +kernel) (by decide +kernel)
theorem k_1174 : Cond.fieldLink RX6 9 "GrantAllocation$Setup" "budget" "[I" ∈ TT := tt 378 (by decide +kernel) (by decide +kernel)
theorem k_1175 : Cond.fieldLink RX6 15 "GrantAllocation$Setup" "reviewerPanel" "[I" ∈ TT := tt 382 (by decide +kernel) (by decide +kernel)
theorem k_1176 : Cond.fieldLink RX6 18 "GrantAllocation$Setup" "reviewerInstitution" "[I" ∈ TT := tt 385 (by decide +kernel) (by decide +kernel)
theorem k_1177 : Cond.fieldLink RX6 21 "GrantAllocation$Setup" "capacity" "[I" ∈ TT := tt 388 (by decide +kernel) (by decide +kernel)
theorem k_1178 : Cond.fieldLink RX6 30 "GrantAllocation$Setup" "proposalPanel" "[I" ∈ TT := tt 397 (by decide +kernel) (by decide +kernel)
theorem k_1179 : Cond.fieldLink RX6 33 "GrantAllocation$Setup" "proposalInstitution" "[I" ∈ TT := tt 402 (by decide +kernel) (by decide +kernel)
theorem k_1180 : Cond.fieldLink RX6 39 "GrantAllocation$Setup" "requested" "[I" ∈ TT := tt 407 (by decide +kernel) (by decide +kernel)
theorem k_1181 : Cond.fieldLink RX6 42 "GrantAllocation$Setup" "least" "[I" ∈ TT := tt 412 (by decide +kernel) (by decide +kernel)
theorem k_1182 : Cond.instanceMethod yX6_init ∈ TT := tt 361 (by decide +kernel) (by decide +kernel)
theorem k_1183 : Cond.code yX6_init cX6_init 1 none ∈ TT := tt 362 (by decide +kernel) (by decide +kernel)
theorem k_1184 : Cond.methodLink RX2 3 Lib.objectInit ∈ TT := tt 189 (by decide +kernel) (by decide +kernel)
theorem k_1185 : Cond.classLink RX2 9 "GrantAllocation$State" ∈ TT := tt 190 (by decide +kernel) (by decide +kernel)
theorem k_1186 : Cond.instantiable RX7 4 ∈ TT := tt 163 (by decide +kernel) (by decide +kernel)
theorem k_1187 : Cond.instanceMethod yX2_init ∈ TT := tt 187 (by decide +kernel) (by decide +kernel)
theorem k_1188 : Cond.code yX2_init cX2_init 2 none ∈ TT := tt 188 (by decide +kernel) (by decide +kernel)
theorem k_1189 : Cond.methodLink RX3 1 Lib.objectInit ∈ TT := tt 319 (by decide +kernel) (by decide +kernel)
theorem k_1190 : Cond.classLink RX3 7 "GrantAllocation$Choices" ∈ TT := tt 320 (by decide +kernel) (by decide +kernel)
theorem k_1191 : Cond.instantiable RX0 6 ∈ TT := tt 321 (by decide +kernel) (by decide +kernel)
theorem k_1192 : Cond.instanceMethod yX3_init ∈ TT := tt 317 (by decide +kernel) (by decide +kernel)
theorem k_1193 : Cond.code yX3_init cX3_init 1 none ∈ TT := tt 318 (by decide +kernel) (by decide +kernel)
theorem k_1194 : Cond.methodLink RX9 1 Lib.objectInit ∈ TT := tt 124 (by decide +kernel) (by decide +kernel)
theorem k_1195 : Cond.classLink RX9 7 "GrantAllocation$TextReader" ∈ TT := tt 127 (by decide +kernel) (by decide +kernel)
theorem k_1196 : Cond.instantiable RX8 8 ∈ TT := tt 128 (by decide +kernel) (by decide +kernel)
theorem k_1197 : Cond.classLink RX9 16 "GrantAllocation$State" ∈ TT := tt 162 (by decide +kernel) (by decide +kernel)
theorem k_1198 : Cond.classLink RX9 23 "GrantAllocation$History" ∈ TT := tt 184 (by decide +kernel) (by decide +kernel)
theorem k_1199 : Cond.instantiable RX2 3 ∈ TT := tt 185 (by decide +kernel) (by decide +kernel)
theorem k_1200 : Cond.methodLink RX9 25 yX2_init ∈ TT := tt 186 (by decide +kernel) (by decide +kernel)
theorem k_1201 : Cond.classLink RX9 30 "GrantAllocation$Ranking" ∈ TT := tt 204 (by decide +kernel) (by decide +kernel)
theorem k_1202 : Cond.instantiable RX5 10 ∈ TT := tt 205 (by decide +kernel) (by decide +kernel)
theorem k_1203 : Cond.classLink RX9 37 "GrantAllocation$Funding" ∈ TT := tt 249 (by decide +kernel) (by decide +kernel)
theorem k_1204 : Cond.instantiable RX1 3 ∈ TT := tt 250 (by decide +kernel) (by decide +kernel)
theorem k_1205 : Cond.classLink RX9 44 "GrantAllocation$Matching" ∈ TT := tt 268 (by decide +kernel) (by decide +kernel)
theorem k_1206 : Cond.instantiable RX4 12 ∈ TT := tt 269 (by decide +kernel) (by decide +kernel)
theorem k_1207 : Cond.classLink RX9 51 "GrantAllocation$Knapsack" ∈ TT := tt 314 (by decide +kernel) (by decide +kernel)
theorem k_1208 : Cond.instantiable RX3 3 ∈ TT := tt 315 (by decide +kernel) (by decide +kernel)
theorem k_1209 : Cond.classLink RX9 58 "GrantAllocation$Setup" ∈ TT := tt 358 (by decide +kernel) (by decide +kernel)
theorem k_1210 : Cond.instantiable RX6 18 ∈ TT := tt 359 (by decide +kernel) (by decide +kernel)
theorem k_1211 : Cond.instanceMethod yX9_init ∈ TT := tt 122 (by decide +kernel) (by decide +kernel)
theorem k_1212 : Cond.code yX9_init cX9_init 1 none ∈ TT := tt 123 (by decide +kernel) (by decide +kernel)
theorem k_1213 : Cond.methodLink RX10 1 Lib.objectInit ∈ TT := tt 1284 (by decide +kernel) (by decide +kernel)
theorem k_1214 : Cond.instanceMethod yX10_init ∈ TT := tt 1282 (by decide +kernel) (by decide +kernel)
theorem k_1215 : Cond.code yX10_init cX10_init 1 none ∈ TT := tt 1283 (by decide +kernel) (by decide +kernel)
def ch_X7 (w : Om) (h : Nat) (u : Nat → Nat) : va_W := [(h, .inr (7, [.ref (u 0), .ref (u 1), .int 0, .int 0])), (u 0, .inl (oc w 12, 192, .inl (fun _ => 0))), (u 1, .inl (oc w 12, 12, .inl (fun _ => 0)))]
theorem mfi_X7_init : MFi yX7_init RX7 cX7_init 1 := ⟨k_1154, k_57, k_1155, rfl, rfl, by decide, by decide, by decide +kernel⟩
set_option maxRecDepth 100000 in
set_option maxHeartbeats 8000000 in
theorem kc_X7 (l : Launch) (hst : l.stackTraces = false) (w : Om) : KC l yX7_init cX7_init 1 1 20 2 204 7 [.null, .null, .int 0, .int 0] (ch_X7 w) w := by
  refine KC_of hst (by decide +kernel) RX7 rfl rfl (by decide) (fun W0 h Γ hw C hA hO hini hE => ?_)
  subst hw
  refine k_aload_n C dX7_init_0 0 rfl rfl ?_
  refine k_obj C dX7_init_1 k_1152 k_1150 k_1151 (by decide) (Nat.le_of_ble_eq_true rfl) (by decide) ?_
  refine k_aload_n C dX7_init_4 0 rfl rfl ?_
  refine k_sipush (v := (192 : Int32)) C dX7_init_5 (by decide) ?_
  refine k_newa_I (N := 192) C hA dX7_init_8 k_1153 (by decide) (by decide) (by decide) (by decide) (by decide) (fun q1 => ?_)
  refine k_putF (ci := 7) (j := 0) (i := 0) (X' := [(h, .inr (7, [.ref q1, .null, .int 0, .int 0])), (q1, .inl (oc (gw Γ) 12, 192, .inl (fun _ => 0)))]) C dX7_init_10 rfl inT_X7 (by decide) k_44 tyX7 tyX7_ok nmX7 rfl hini rfl rfl rfl rfl (Nat.le_of_ble_eq_true rfl) rfl ?_
  refine k_aload_n C dX7_init_13 0 rfl rfl ?_
  refine k_bipush (v := (12 : Int32)) C dX7_init_14 (by decide) ?_
  refine k_newa_I (N := 12) C hA dX7_init_16 k_1153 (by decide) (by decide) (by decide) (by decide) (by decide) (fun q2 => ?_)
  refine k_putF (ci := 7) (j := 1) (i := 0) (X' := [(h, .inr (7, [.ref q1, .ref q2, .int 0, .int 0])), (q1, .inl (oc (gw Γ) 12, 192, .inl (fun _ => 0))), (q2, .inl (oc (gw Γ) 12, 12, .inl (fun _ => 0)))]) C dX7_init_18 rfl inT_X7 (by decide) k_49 tyX7 tyX7_ok nmX7 rfl hini rfl rfl rfl rfl (Nat.le_of_ble_eq_true rfl) rfl ?_
  exact hE (fun i => [q1, q2].getD i 0) _ _ 21 _ (by decide) (by decide) dX7_init_21
def ch_X8 (w : Om) (h : Nat) (u : Nat → Nat) : va_W := [(h, .inr (8, [.ref (u 0), .int 0, .int 0, .int (-1 : Int32), .int 0, .int 0, .int 0, .int 0])), (u 0, .inl (oc w 11, 800, .inl (fun _ => 0)))]
theorem mfi_X8_init : MFi yX8_init RX8 cX8_init 1 := ⟨k_1158, k_241, k_1159, rfl, rfl, by decide, by decide, by decide +kernel⟩
set_option maxRecDepth 100000 in
set_option maxHeartbeats 8000000 in
theorem kc_X8 (l : Launch) (hst : l.stackTraces = false) (w : Om) : KC l yX8_init cX8_init 1 1 20 1 800 8 [.null, .int 0, .int 0, .int 0, .int 0, .int 0, .int 0, .int 0] (ch_X8 w) w := by
  refine KC_of hst (by decide +kernel) RX8 rfl rfl (by decide) (fun W0 h Γ hw C hA hO hini hE => ?_)
  subst hw
  refine k_aload_n C dX8_init_0 0 rfl rfl ?_
  refine k_obj C dX8_init_1 k_1156 k_1150 k_1151 (by decide) (Nat.le_of_ble_eq_true rfl) (by decide) ?_
  refine k_aload_n C dX8_init_4 0 rfl rfl ?_
  refine k_sipush (v := (800 : Int32)) C dX8_init_5 (by decide) ?_
  refine k_newa_B (N := 800) C hA dX8_init_8 k_1157 (by decide) (by decide) (by decide) (by decide) (by decide) (fun q1 => ?_)
  refine k_putF (ci := 8) (j := 0) (i := 0) (X' := [(h, .inr (8, [.ref q1, .int 0, .int 0, .int 0, .int 0, .int 0, .int 0, .int 0])), (q1, .inl (oc (gw Γ) 11, 800, .inl (fun _ => 0)))]) C dX8_init_10 rfl inT_X8 (by decide) k_234 tyX8 tyX8_ok nmX8 rfl hini rfl rfl rfl rfl (Nat.le_of_ble_eq_true rfl) rfl ?_
  refine k_aload_n C dX8_init_13 0 rfl rfl ?_
  refine k_iconst (v := (-1 : Int32)) C dX8_init_14 (by decide) ?_
  refine k_put (ci := 8) (j := 3) (i := 0) (X' := [(h, .inr (8, [.ref q1, .int 0, .int 0, .int (-1 : Int32), .int 0, .int 0, .int 0, .int 0])), (q1, .inl (oc (gw Γ) 11, 800, .inl (fun _ => 0)))]) C dX8_init_15 rfl inT_X8 (by decide) k_248 tyX8 tyX8_ok nmX8 rfl rfl rfl rfl (Nat.le_of_ble_eq_true rfl) rfl ?_
  exact hE (fun i => [q1].getD i 0) _ _ 18 _ (by decide) (by decide) dX8_init_18
def ch_X0 (w : Om) (h : Nat) (u : Nat → Nat) : va_W := [(h, .inr (0, [.ref (u 0), .ref (u 1), .int (1 : Int32), .ref (u 2), .ref (u 3), .int 0])), (u 0, .inl (oc w 12, 256, .inl (fun _ => 0))), (u 1, .inl (oc w 12, 256, .inl (fun _ => 0))), (u 2, .inl (oc w 12, 256, .inl (fun _ => 0))), (u 3, .inl (oc w 12, 256, .inl (fun _ => 0)))]
theorem mfi_X0_init : MFi yX0_init RX0 cX0_init 1 := ⟨k_1161, k_9, k_1162, rfl, rfl, by decide, by decide, by decide +kernel⟩
set_option maxRecDepth 100000 in
set_option maxHeartbeats 8000000 in
theorem kc_X0 (l : Launch) (hst : l.stackTraces = false) (w : Om) : KC l yX0_init cX0_init 1 1 20 4 1024 0 [.null, .null, .int 0, .null, .null, .int 0] (ch_X0 w) w := by
  refine KC_of hst (by decide +kernel) RX0 rfl rfl (by decide) (fun W0 h Γ hw C hA hO hini hE => ?_)
  subst hw
  refine k_aload_n C dX0_init_0 0 rfl rfl ?_
  refine k_obj C dX0_init_1 k_1160 k_1150 k_1151 (by decide) (Nat.le_of_ble_eq_true rfl) (by decide) ?_
  refine k_aload_n C dX0_init_4 0 rfl rfl ?_
  refine k_sipush (v := (256 : Int32)) C dX0_init_5 (by decide) ?_
  refine k_newa_I (N := 256) C hA dX0_init_8 k_1153 (by decide) (by decide) (by decide) (by decide) (by decide) (fun q1 => ?_)
  refine k_put (ci := 0) (j := 0) (i := 0) (X' := [(h, .inr (0, [.ref q1, .null, .int 0, .null, .null, .int 0])), (q1, .inl (oc (gw Γ) 12, 256, .inl (fun _ => 0)))]) C dX0_init_10 rfl inT_X0 (by decide) k_0 tyX0 tyX0_ok nmX0 rfl rfl rfl rfl (Nat.le_of_ble_eq_true rfl) rfl ?_
  refine k_aload_n C dX0_init_13 0 rfl rfl ?_
  refine k_sipush (v := (256 : Int32)) C dX0_init_14 (by decide) ?_
  refine k_newa_I (N := 256) C hA dX0_init_17 k_1153 (by decide) (by decide) (by decide) (by decide) (by decide) (fun q2 => ?_)
  refine k_put (ci := 0) (j := 1) (i := 0) (X' := [(h, .inr (0, [.ref q1, .ref q2, .int 0, .null, .null, .int 0])), (q1, .inl (oc (gw Γ) 12, 256, .inl (fun _ => 0))), (q2, .inl (oc (gw Γ) 12, 256, .inl (fun _ => 0)))]) C dX0_init_19 rfl inT_X0 (by decide) k_1 tyX0 tyX0_ok nmX0 rfl rfl rfl rfl (Nat.le_of_ble_eq_true rfl) rfl ?_
  refine k_aload_n C dX0_init_22 0 rfl rfl ?_
  refine k_iconst (v := (1 : Int32)) C dX0_init_23 (by decide) ?_
  refine k_put (ci := 0) (j := 2) (i := 0) (X' := [(h, .inr (0, [.ref q1, .ref q2, .int (1 : Int32), .null, .null, .int 0])), (q1, .inl (oc (gw Γ) 12, 256, .inl (fun _ => 0))), (q2, .inl (oc (gw Γ) 12, 256, .inl (fun _ => 0)))]) C dX0_init_24 rfl inT_X0 (by decide) k_2 tyX0 tyX0_ok nmX0 rfl rfl rfl rfl (Nat.le_of_ble_eq_true rfl) rfl ?_
  refine k_aload_n C dX0_init_27 0 rfl rfl ?_
  refine k_sipush (v := (256 : Int32)) C dX0_init_28 (by decide) ?_
  refine k_newa_I (N := 256) C hA dX0_init_31 k_1153 (by decide) (by decide) (by decide) (by decide) (by decide) (fun q3 => ?_)
  refine k_put (ci := 0) (j := 3) (i := 0) (X' := [(h, .inr (0, [.ref q1, .ref q2, .int (1 : Int32), .ref q3, .null, .int 0])), (q1, .inl (oc (gw Γ) 12, 256, .inl (fun _ => 0))), (q2, .inl (oc (gw Γ) 12, 256, .inl (fun _ => 0))), (q3, .inl (oc (gw Γ) 12, 256, .inl (fun _ => 0)))]) C dX0_init_33 rfl inT_X0 (by decide) k_4 tyX0 tyX0_ok nmX0 rfl rfl rfl rfl (Nat.le_of_ble_eq_true rfl) rfl ?_
  refine k_aload_n C dX0_init_36 0 rfl rfl ?_
  refine k_sipush (v := (256 : Int32)) C dX0_init_37 (by decide) ?_
  refine k_newa_I (N := 256) C hA dX0_init_40 k_1153 (by decide) (by decide) (by decide) (by decide) (by decide) (fun q4 => ?_)
  refine k_put (ci := 0) (j := 4) (i := 0) (X' := [(h, .inr (0, [.ref q1, .ref q2, .int (1 : Int32), .ref q3, .ref q4, .int 0])), (q1, .inl (oc (gw Γ) 12, 256, .inl (fun _ => 0))), (q2, .inl (oc (gw Γ) 12, 256, .inl (fun _ => 0))), (q3, .inl (oc (gw Γ) 12, 256, .inl (fun _ => 0))), (q4, .inl (oc (gw Γ) 12, 256, .inl (fun _ => 0)))]) C dX0_init_42 rfl inT_X0 (by decide) k_5 tyX0 tyX0_ok nmX0 rfl rfl rfl rfl (Nat.le_of_ble_eq_true rfl) rfl ?_
  exact hE (fun i => [q1, q2, q3, q4].getD i 0) _ _ 45 _ (by decide) (by decide) dX0_init_45
def ch_X1 (w : Om) (h : Nat) (u : Nat → Nat) : va_W := [(h, .inr (1, [.ref (u 0), .ref (u 1), .int 0])), (u 0, .inl (oc w 12, 16, .inl (fun _ => 0))), (u 1, .inl (oc w 12, 4, .inl (fun _ => 0)))]
theorem mfi_X1_init : MFi yX1_init RX1 cX1_init 1 := ⟨k_1164, k_26, k_1165, rfl, rfl, by decide, by decide, by decide +kernel⟩
set_option maxRecDepth 100000 in
set_option maxHeartbeats 8000000 in
theorem kc_X1 (l : Launch) (hst : l.stackTraces = false) (w : Om) : KC l yX1_init cX1_init 1 1 20 2 20 1 [.null, .null, .int 0] (ch_X1 w) w := by
  refine KC_of hst (by decide +kernel) RX1 rfl rfl (by decide) (fun W0 h Γ hw C hA hO hini hE => ?_)
  subst hw
  refine k_aload_n C dX1_init_0 0 rfl rfl ?_
  refine k_obj C dX1_init_1 k_1163 k_1150 k_1151 (by decide) (Nat.le_of_ble_eq_true rfl) (by decide) ?_
  refine k_aload_n C dX1_init_4 0 rfl rfl ?_
  refine k_bipush (v := (16 : Int32)) C dX1_init_5 (by decide) ?_
  refine k_newa_I (N := 16) C hA dX1_init_7 k_1153 (by decide) (by decide) (by decide) (by decide) (by decide) (fun q1 => ?_)
  refine k_putF (ci := 1) (j := 0) (i := 0) (X' := [(h, .inr (1, [.ref q1, .null, .int 0])), (q1, .inl (oc (gw Γ) 12, 16, .inl (fun _ => 0)))]) C dX1_init_9 rfl inT_X1 (by decide) k_18 tyX1 tyX1_ok nmX1 rfl hini rfl rfl rfl rfl (Nat.le_of_ble_eq_true rfl) rfl ?_
  refine k_aload_n C dX1_init_12 0 rfl rfl ?_
  refine k_iconst (v := (4 : Int32)) C dX1_init_13 (by decide) ?_
  refine k_newa_I (N := 4) C hA dX1_init_14 k_1153 (by decide) (by decide) (by decide) (by decide) (by decide) (fun q2 => ?_)
  refine k_putF (ci := 1) (j := 1) (i := 0) (X' := [(h, .inr (1, [.ref q1, .ref q2, .int 0])), (q1, .inl (oc (gw Γ) 12, 16, .inl (fun _ => 0))), (q2, .inl (oc (gw Γ) 12, 4, .inl (fun _ => 0)))]) C dX1_init_16 rfl inT_X1 (by decide) k_28 tyX1 tyX1_ok nmX1 rfl hini rfl rfl rfl rfl (Nat.le_of_ble_eq_true rfl) rfl ?_
  exact hE (fun i => [q1, q2].getD i 0) _ _ 19 _ (by decide) (by decide) dX1_init_19
def ch_X4 (w : Om) (h : Nat) (u : Nat → Nat) : va_W := [(h, .inr (4, [.ref (u 0), .ref (u 1), .ref (u 2), .ref (u 3), .ref (u 4), .ref (u 5), .ref (u 6), .ref (u 7), .int 0, .int 0, .int 0, .int 0])), (u 0, .inl (oc w 12, 192, .inl (fun _ => 0))), (u 1, .inl (oc w 13, 192, .inl (fun _ => 0))), (u 2, .inl (oc w 12, 12, .inl (fun _ => 0))), (u 3, .inl (oc w 12, 16, .inl (fun _ => 0))), (u 4, .inl (oc w 12, 12, .inl (fun _ => 0))), (u 5, .inl (oc w 12, 12, .inl (fun _ => 0))), (u 6, .inl (oc w 12, 16, .inl (fun _ => 0))), (u 7, .inl (oc w 12, 16, .inl (fun _ => 0)))]
theorem mfi_X4_init : MFi yX4_init RX4 cX4_init 1 := ⟨k_1168, k_98, k_1169, rfl, rfl, by decide, by decide, by decide +kernel⟩
set_option maxRecDepth 100000 in
set_option maxHeartbeats 8000000 in
theorem kc_X4 (l : Launch) (hst : l.stackTraces = false) (w : Om) : KC l yX4_init cX4_init 1 1 20 8 468 4 [.null, .null, .null, .null, .null, .null, .null, .null, .int 0, .int 0, .int 0, .int 0] (ch_X4 w) w := by
  refine KC_of hst (by decide +kernel) RX4 rfl rfl (by decide) (fun W0 h Γ hw C hA hO hini hE => ?_)
  subst hw
  refine k_aload_n C dX4_init_0 0 rfl rfl ?_
  refine k_obj C dX4_init_1 k_1166 k_1150 k_1151 (by decide) (Nat.le_of_ble_eq_true rfl) (by decide) ?_
  refine k_aload_n C dX4_init_4 0 rfl rfl ?_
  refine k_sipush (v := (192 : Int32)) C dX4_init_5 (by decide) ?_
  refine k_newa_I (N := 192) C hA dX4_init_8 k_1153 (by decide) (by decide) (by decide) (by decide) (by decide) (fun q1 => ?_)
  refine k_putF (ci := 4) (j := 0) (i := 0) (X' := [(h, .inr (4, [.ref q1, .null, .null, .null, .null, .null, .null, .null, .int 0, .int 0, .int 0, .int 0])), (q1, .inl (oc (gw Γ) 12, 192, .inl (fun _ => 0)))]) C dX4_init_10 rfl inT_X4 (by decide) k_90 tyX4 tyX4_ok nmX4 rfl hini rfl rfl rfl rfl (Nat.le_of_ble_eq_true rfl) rfl ?_
  refine k_aload_n C dX4_init_13 0 rfl rfl ?_
  refine k_sipush (v := (192 : Int32)) C dX4_init_14 (by decide) ?_
  refine k_newa_Z (N := 192) C hA dX4_init_17 k_1167 (by decide) (by decide) (by decide) (by decide) (by decide) (fun q2 => ?_)
  refine k_putF (ci := 4) (j := 1) (i := 0) (X' := [(h, .inr (4, [.ref q1, .ref q2, .null, .null, .null, .null, .null, .null, .int 0, .int 0, .int 0, .int 0])), (q1, .inl (oc (gw Γ) 12, 192, .inl (fun _ => 0))), (q2, .inl (oc (gw Γ) 13, 192, .inl (fun _ => 0)))]) C dX4_init_19 rfl inT_X4 (by decide) k_89 tyX4 tyX4_ok nmX4 rfl hini rfl rfl rfl rfl (Nat.le_of_ble_eq_true rfl) rfl ?_
  refine k_aload_n C dX4_init_22 0 rfl rfl ?_
  refine k_bipush (v := (12 : Int32)) C dX4_init_23 (by decide) ?_
  refine k_newa_I (N := 12) C hA dX4_init_25 k_1153 (by decide) (by decide) (by decide) (by decide) (by decide) (fun q3 => ?_)
  refine k_putF (ci := 4) (j := 2) (i := 0) (X' := [(h, .inr (4, [.ref q1, .ref q2, .ref q3, .null, .null, .null, .null, .null, .int 0, .int 0, .int 0, .int 0])), (q1, .inl (oc (gw Γ) 12, 192, .inl (fun _ => 0))), (q2, .inl (oc (gw Γ) 13, 192, .inl (fun _ => 0))), (q3, .inl (oc (gw Γ) 12, 12, .inl (fun _ => 0)))]) C dX4_init_27 rfl inT_X4 (by decide) k_81 tyX4 tyX4_ok nmX4 rfl hini rfl rfl rfl rfl (Nat.le_of_ble_eq_true rfl) rfl ?_
  refine k_aload_n C dX4_init_30 0 rfl rfl ?_
  refine k_bipush (v := (16 : Int32)) C dX4_init_31 (by decide) ?_
  refine k_newa_I (N := 16) C hA dX4_init_33 k_1153 (by decide) (by decide) (by decide) (by decide) (by decide) (fun q4 => ?_)
  refine k_putF (ci := 4) (j := 3) (i := 0) (X' := [(h, .inr (4, [.ref q1, .ref q2, .ref q3, .ref q4, .null, .null, .null, .null, .int 0, .int 0, .int 0, .int 0])), (q1, .inl (oc (gw Γ) 12, 192, .inl (fun _ => 0))), (q2, .inl (oc (gw Γ) 13, 192, .inl (fun _ => 0))), (q3, .inl (oc (gw Γ) 12, 12, .inl (fun _ => 0))), (q4, .inl (oc (gw Γ) 12, 16, .inl (fun _ => 0)))]) C dX4_init_35 rfl inT_X4 (by decide) k_94 tyX4 tyX4_ok nmX4 rfl hini rfl rfl rfl rfl (Nat.le_of_ble_eq_true rfl) rfl ?_
  refine k_aload_n C dX4_init_38 0 rfl rfl ?_
  refine k_bipush (v := (12 : Int32)) C dX4_init_39 (by decide) ?_
  refine k_newa_I (N := 12) C hA dX4_init_41 k_1153 (by decide) (by decide) (by decide) (by decide) (by decide) (fun q5 => ?_)
  refine k_putF (ci := 4) (j := 4) (i := 0) (X' := [(h, .inr (4, [.ref q1, .ref q2, .ref q3, .ref q4, .ref q5, .null, .null, .null, .int 0, .int 0, .int 0, .int 0])), (q1, .inl (oc (gw Γ) 12, 192, .inl (fun _ => 0))), (q2, .inl (oc (gw Γ) 13, 192, .inl (fun _ => 0))), (q3, .inl (oc (gw Γ) 12, 12, .inl (fun _ => 0))), (q4, .inl (oc (gw Γ) 12, 16, .inl (fun _ => 0))), (q5, .inl (oc (gw Γ) 12, 12, .inl (fun _ => 0)))]) C dX4_init_43 rfl inT_X4 (by decide) k_83 tyX4 tyX4_ok nmX4 rfl hini rfl rfl rfl rfl (Nat.le_of_ble_eq_true rfl) rfl ?_
  refine k_aload_n C dX4_init_46 0 rfl rfl ?_
  refine k_bipush (v := (12 : Int32)) C dX4_init_47 (by decide) ?_
  refine k_newa_I (N := 12) C hA dX4_init_49 k_1153 (by decide) (by decide) (by decide) (by decide) (by decide) (fun q6 => ?_)
  refine k_putF (ci := 4) (j := 5) (i := 0) (X' := [(h, .inr (4, [.ref q1, .ref q2, .ref q3, .ref q4, .ref q5, .ref q6, .null, .null, .int 0, .int 0, .int 0, .int 0])), (q1, .inl (oc (gw Γ) 12, 192, .inl (fun _ => 0))), (q2, .inl (oc (gw Γ) 13, 192, .inl (fun _ => 0))), (q3, .inl (oc (gw Γ) 12, 12, .inl (fun _ => 0))), (q4, .inl (oc (gw Γ) 12, 16, .inl (fun _ => 0))), (q5, .inl (oc (gw Γ) 12, 12, .inl (fun _ => 0))), (q6, .inl (oc (gw Γ) 12, 12, .inl (fun _ => 0)))]) C dX4_init_51 rfl inT_X4 (by decide) k_82 tyX4 tyX4_ok nmX4 rfl hini rfl rfl rfl rfl (Nat.le_of_ble_eq_true rfl) rfl ?_
  refine k_aload_n C dX4_init_54 0 rfl rfl ?_
  refine k_bipush (v := (16 : Int32)) C dX4_init_55 (by decide) ?_
  refine k_newa_I (N := 16) C hA dX4_init_57 k_1153 (by decide) (by decide) (by decide) (by decide) (by decide) (fun q7 => ?_)
  refine k_putF (ci := 4) (j := 6) (i := 0) (X' := [(h, .inr (4, [.ref q1, .ref q2, .ref q3, .ref q4, .ref q5, .ref q6, .ref q7, .null, .int 0, .int 0, .int 0, .int 0])), (q1, .inl (oc (gw Γ) 12, 192, .inl (fun _ => 0))), (q2, .inl (oc (gw Γ) 13, 192, .inl (fun _ => 0))), (q3, .inl (oc (gw Γ) 12, 12, .inl (fun _ => 0))), (q4, .inl (oc (gw Γ) 12, 16, .inl (fun _ => 0))), (q5, .inl (oc (gw Γ) 12, 12, .inl (fun _ => 0))), (q6, .inl (oc (gw Γ) 12, 12, .inl (fun _ => 0))), (q7, .inl (oc (gw Γ) 12, 16, .inl (fun _ => 0)))]) C dX4_init_59 rfl inT_X4 (by decide) k_91 tyX4 tyX4_ok nmX4 rfl hini rfl rfl rfl rfl (Nat.le_of_ble_eq_true rfl) rfl ?_
  refine k_aload_n C dX4_init_62 0 rfl rfl ?_
  refine k_bipush (v := (16 : Int32)) C dX4_init_63 (by decide) ?_
  refine k_newa_I (N := 16) C hA dX4_init_65 k_1153 (by decide) (by decide) (by decide) (by decide) (by decide) (fun q8 => ?_)
  refine k_putF (ci := 4) (j := 7) (i := 0) (X' := [(h, .inr (4, [.ref q1, .ref q2, .ref q3, .ref q4, .ref q5, .ref q6, .ref q7, .ref q8, .int 0, .int 0, .int 0, .int 0])), (q1, .inl (oc (gw Γ) 12, 192, .inl (fun _ => 0))), (q2, .inl (oc (gw Γ) 13, 192, .inl (fun _ => 0))), (q3, .inl (oc (gw Γ) 12, 12, .inl (fun _ => 0))), (q4, .inl (oc (gw Γ) 12, 16, .inl (fun _ => 0))), (q5, .inl (oc (gw Γ) 12, 12, .inl (fun _ => 0))), (q6, .inl (oc (gw Γ) 12, 12, .inl (fun _ => 0))), (q7, .inl (oc (gw Γ) 12, 16, .inl (fun _ => 0))), (q8, .inl (oc (gw Γ) 12, 16, .inl (fun _ => 0)))]) C dX4_init_67 rfl inT_X4 (by decide) k_92 tyX4 tyX4_ok nmX4 rfl hini rfl rfl rfl rfl (Nat.le_of_ble_eq_true rfl) rfl ?_
  exact hE (fun i => [q1, q2, q3, q4, q5, q6, q7, q8].getD i 0) _ _ 70 _ (by decide) (by decide) dX4_init_70
def ch_X5 (w : Om) (h : Nat) (u : Nat → Nat) : va_W := [(h, .inr (5, [.ref (u 0), .ref (u 1), .ref (u 2), .ref (u 3), .ref (u 4), .ref (u 5), .ref (u 6), .ref (u 7), .ref (u 8), .int 0])), (u 0, .inl (oc w 12, 12, .inl (fun _ => 0))), (u 1, .inl (oc w 12, 12, .inl (fun _ => 0))), (u 2, .inl (oc w 12, 12, .inl (fun _ => 0))), (u 3, .inl (oc w 12, 16, .inl (fun _ => 0))), (u 4, .inl (oc w 12, 16, .inl (fun _ => 0))), (u 5, .inl (oc w 12, 16, .inl (fun _ => 0))), (u 6, .inl (oc w 12, 16, .inl (fun _ => 0))), (u 7, .inl (oc w 12, 16, .inl (fun _ => 0))), (u 8, .inl (oc w 12, 16, .inl (fun _ => 0)))]
theorem mfi_X5_init : MFi yX5_init RX5 cX5_init 1 := ⟨k_1171, k_154, k_1172, rfl, rfl, by decide, by decide, by decide +kernel⟩
set_option maxRecDepth 100000 in
set_option maxHeartbeats 8000000 in
theorem kc_X5 (l : Launch) (hst : l.stackTraces = false) (w : Om) : KC l yX5_init cX5_init 1 1 20 9 132 5 [.null, .null, .null, .null, .null, .null, .null, .null, .null, .int 0] (ch_X5 w) w := by
  refine KC_of hst (by decide +kernel) RX5 rfl rfl (by decide) (fun W0 h Γ hw C hA hO hini hE => ?_)
  subst hw
  refine k_aload_n C dX5_init_0 0 rfl rfl ?_
  refine k_obj C dX5_init_1 k_1170 k_1150 k_1151 (by decide) (Nat.le_of_ble_eq_true rfl) (by decide) ?_
  refine k_aload_n C dX5_init_4 0 rfl rfl ?_
  refine k_bipush (v := (12 : Int32)) C dX5_init_5 (by decide) ?_
  refine k_newa_I (N := 12) C hA dX5_init_7 k_1153 (by decide) (by decide) (by decide) (by decide) (by decide) (fun q1 => ?_)
  refine k_putF (ci := 5) (j := 0) (i := 0) (X' := [(h, .inr (5, [.ref q1, .null, .null, .null, .null, .null, .null, .null, .null, .int 0])), (q1, .inl (oc (gw Γ) 12, 12, .inl (fun _ => 0)))]) C dX5_init_9 rfl inT_X5 (by decide) k_167 tyX5 tyX5_ok nmX5 rfl hini rfl rfl rfl rfl (Nat.le_of_ble_eq_true rfl) rfl ?_
  refine k_aload_n C dX5_init_12 0 rfl rfl ?_
  refine k_bipush (v := (12 : Int32)) C dX5_init_13 (by decide) ?_
  refine k_newa_I (N := 12) C hA dX5_init_15 k_1153 (by decide) (by decide) (by decide) (by decide) (by decide) (fun q2 => ?_)
  refine k_putF (ci := 5) (j := 1) (i := 0) (X' := [(h, .inr (5, [.ref q1, .ref q2, .null, .null, .null, .null, .null, .null, .null, .int 0])), (q1, .inl (oc (gw Γ) 12, 12, .inl (fun _ => 0))), (q2, .inl (oc (gw Γ) 12, 12, .inl (fun _ => 0)))]) C dX5_init_17 rfl inT_X5 (by decide) k_170 tyX5 tyX5_ok nmX5 rfl hini rfl rfl rfl rfl (Nat.le_of_ble_eq_true rfl) rfl ?_
  refine k_aload_n C dX5_init_20 0 rfl rfl ?_
  refine k_bipush (v := (12 : Int32)) C dX5_init_21 (by decide) ?_
  refine k_newa_I (N := 12) C hA dX5_init_23 k_1153 (by decide) (by decide) (by decide) (by decide) (by decide) (fun q3 => ?_)
  refine k_putF (ci := 5) (j := 2) (i := 0) (X' := [(h, .inr (5, [.ref q1, .ref q2, .ref q3, .null, .null, .null, .null, .null, .null, .int 0])), (q1, .inl (oc (gw Γ) 12, 12, .inl (fun _ => 0))), (q2, .inl (oc (gw Γ) 12, 12, .inl (fun _ => 0))), (q3, .inl (oc (gw Γ) 12, 12, .inl (fun _ => 0)))]) C dX5_init_25 rfl inT_X5 (by decide) k_168 tyX5 tyX5_ok nmX5 rfl hini rfl rfl rfl rfl (Nat.le_of_ble_eq_true rfl) rfl ?_
  refine k_aload_n C dX5_init_28 0 rfl rfl ?_
  refine k_bipush (v := (16 : Int32)) C dX5_init_29 (by decide) ?_
  refine k_newa_I (N := 16) C hA dX5_init_31 k_1153 (by decide) (by decide) (by decide) (by decide) (by decide) (fun q4 => ?_)
  refine k_putF (ci := 5) (j := 3) (i := 0) (X' := [(h, .inr (5, [.ref q1, .ref q2, .ref q3, .ref q4, .null, .null, .null, .null, .null, .int 0])), (q1, .inl (oc (gw Γ) 12, 12, .inl (fun _ => 0))), (q2, .inl (oc (gw Γ) 12, 12, .inl (fun _ => 0))), (q3, .inl (oc (gw Γ) 12, 12, .inl (fun _ => 0))), (q4, .inl (oc (gw Γ) 12, 16, .inl (fun _ => 0)))]) C dX5_init_33 rfl inT_X5 (by decide) k_166 tyX5 tyX5_ok nmX5 rfl hini rfl rfl rfl rfl (Nat.le_of_ble_eq_true rfl) rfl ?_
  refine k_aload_n C dX5_init_36 0 rfl rfl ?_
  refine k_bipush (v := (16 : Int32)) C dX5_init_37 (by decide) ?_
  refine k_newa_I (N := 16) C hA dX5_init_39 k_1153 (by decide) (by decide) (by decide) (by decide) (by decide) (fun q5 => ?_)
  refine k_putF (ci := 5) (j := 4) (i := 0) (X' := [(h, .inr (5, [.ref q1, .ref q2, .ref q3, .ref q4, .ref q5, .null, .null, .null, .null, .int 0])), (q1, .inl (oc (gw Γ) 12, 12, .inl (fun _ => 0))), (q2, .inl (oc (gw Γ) 12, 12, .inl (fun _ => 0))), (q3, .inl (oc (gw Γ) 12, 12, .inl (fun _ => 0))), (q4, .inl (oc (gw Γ) 12, 16, .inl (fun _ => 0))), (q5, .inl (oc (gw Γ) 12, 16, .inl (fun _ => 0)))]) C dX5_init_41 rfl inT_X5 (by decide) k_147 tyX5 tyX5_ok nmX5 rfl hini rfl rfl rfl rfl (Nat.le_of_ble_eq_true rfl) rfl ?_
  refine k_aload_n C dX5_init_44 0 rfl rfl ?_
  refine k_bipush (v := (16 : Int32)) C dX5_init_45 (by decide) ?_
  refine k_newa_I (N := 16) C hA dX5_init_47 k_1153 (by decide) (by decide) (by decide) (by decide) (by decide) (fun q6 => ?_)
  refine k_putF (ci := 5) (j := 5) (i := 0) (X' := [(h, .inr (5, [.ref q1, .ref q2, .ref q3, .ref q4, .ref q5, .ref q6, .null, .null, .null, .int 0])), (q1, .inl (oc (gw Γ) 12, 12, .inl (fun _ => 0))), (q2, .inl (oc (gw Γ) 12, 12, .inl (fun _ => 0))), (q3, .inl (oc (gw Γ) 12, 12, .inl (fun _ => 0))), (q4, .inl (oc (gw Γ) 12, 16, .inl (fun _ => 0))), (q5, .inl (oc (gw Γ) 12, 16, .inl (fun _ => 0))), (q6, .inl (oc (gw Γ) 12, 16, .inl (fun _ => 0)))]) C dX5_init_49 rfl inT_X5 (by decide) k_148 tyX5 tyX5_ok nmX5 rfl hini rfl rfl rfl rfl (Nat.le_of_ble_eq_true rfl) rfl ?_
  refine k_aload_n C dX5_init_52 0 rfl rfl ?_
  refine k_bipush (v := (16 : Int32)) C dX5_init_53 (by decide) ?_
  refine k_newa_I (N := 16) C hA dX5_init_55 k_1153 (by decide) (by decide) (by decide) (by decide) (by decide) (fun q7 => ?_)
  refine k_putF (ci := 5) (j := 6) (i := 0) (X' := [(h, .inr (5, [.ref q1, .ref q2, .ref q3, .ref q4, .ref q5, .ref q6, .ref q7, .null, .null, .int 0])), (q1, .inl (oc (gw Γ) 12, 12, .inl (fun _ => 0))), (q2, .inl (oc (gw Γ) 12, 12, .inl (fun _ => 0))), (q3, .inl (oc (gw Γ) 12, 12, .inl (fun _ => 0))), (q4, .inl (oc (gw Γ) 12, 16, .inl (fun _ => 0))), (q5, .inl (oc (gw Γ) 12, 16, .inl (fun _ => 0))), (q6, .inl (oc (gw Γ) 12, 16, .inl (fun _ => 0))), (q7, .inl (oc (gw Γ) 12, 16, .inl (fun _ => 0)))]) C dX5_init_57 rfl inT_X5 (by decide) k_149 tyX5 tyX5_ok nmX5 rfl hini rfl rfl rfl rfl (Nat.le_of_ble_eq_true rfl) rfl ?_
  refine k_aload_n C dX5_init_60 0 rfl rfl ?_
  refine k_bipush (v := (16 : Int32)) C dX5_init_61 (by decide) ?_
  refine k_newa_I (N := 16) C hA dX5_init_63 k_1153 (by decide) (by decide) (by decide) (by decide) (by decide) (fun q8 => ?_)
  refine k_putF (ci := 5) (j := 7) (i := 0) (X' := [(h, .inr (5, [.ref q1, .ref q2, .ref q3, .ref q4, .ref q5, .ref q6, .ref q7, .ref q8, .null, .int 0])), (q1, .inl (oc (gw Γ) 12, 12, .inl (fun _ => 0))), (q2, .inl (oc (gw Γ) 12, 12, .inl (fun _ => 0))), (q3, .inl (oc (gw Γ) 12, 12, .inl (fun _ => 0))), (q4, .inl (oc (gw Γ) 12, 16, .inl (fun _ => 0))), (q5, .inl (oc (gw Γ) 12, 16, .inl (fun _ => 0))), (q6, .inl (oc (gw Γ) 12, 16, .inl (fun _ => 0))), (q7, .inl (oc (gw Γ) 12, 16, .inl (fun _ => 0))), (q8, .inl (oc (gw Γ) 12, 16, .inl (fun _ => 0)))]) C dX5_init_65 rfl inT_X5 (by decide) k_150 tyX5 tyX5_ok nmX5 rfl hini rfl rfl rfl rfl (Nat.le_of_ble_eq_true rfl) rfl ?_
  refine k_aload_n C dX5_init_68 0 rfl rfl ?_
  refine k_bipush (v := (16 : Int32)) C dX5_init_69 (by decide) ?_
  refine k_newa_I (N := 16) C hA dX5_init_71 k_1153 (by decide) (by decide) (by decide) (by decide) (by decide) (fun q9 => ?_)
  refine k_putF (ci := 5) (j := 8) (i := 0) (X' := [(h, .inr (5, [.ref q1, .ref q2, .ref q3, .ref q4, .ref q5, .ref q6, .ref q7, .ref q8, .ref q9, .int 0])), (q1, .inl (oc (gw Γ) 12, 12, .inl (fun _ => 0))), (q2, .inl (oc (gw Γ) 12, 12, .inl (fun _ => 0))), (q3, .inl (oc (gw Γ) 12, 12, .inl (fun _ => 0))), (q4, .inl (oc (gw Γ) 12, 16, .inl (fun _ => 0))), (q5, .inl (oc (gw Γ) 12, 16, .inl (fun _ => 0))), (q6, .inl (oc (gw Γ) 12, 16, .inl (fun _ => 0))), (q7, .inl (oc (gw Γ) 12, 16, .inl (fun _ => 0))), (q8, .inl (oc (gw Γ) 12, 16, .inl (fun _ => 0))), (q9, .inl (oc (gw Γ) 12, 16, .inl (fun _ => 0)))]) C dX5_init_73 rfl inT_X5 (by decide) k_161 tyX5 tyX5_ok nmX5 rfl hini rfl rfl rfl rfl (Nat.le_of_ble_eq_true rfl) rfl ?_
  exact hE (fun i => [q1, q2, q3, q4, q5, q6, q7, q8, q9].getD i 0) _ _ 76 _ (by decide) (by decide) dX5_init_76
def ch_X6 (w : Om) (h : Nat) (u : Nat → Nat) : va_W := [(h, .inr (6, [.int 0, .int 0, .int 0, .ref (u 0), .ref (u 1), .ref (u 2), .ref (u 3), .ref (u 4), .ref (u 5), .ref (u 6), .ref (u 7), .ref (u 8), .ref (u 9), .ref (u 10), .int (2 : Int32), .int (20 : Int32), .int 0, .int 0])), (u 0, .inl (oc w 12, 4, .inl (fun _ => 0))), (u 1, .inl (oc w 12, 12, .inl (fun _ => 0))), (u 2, .inl (oc w 12, 12, .inl (fun _ => 0))), (u 3, .inl (oc w 12, 12, .inl (fun _ => 0))), (u 4, .inl (oc w 12, 12, .inl (fun _ => 0))), (u 5, .inl (oc w 12, 12, .inl (fun _ => 0))), (u 6, .inl (oc w 12, 16, .inl (fun _ => 0))), (u 7, .inl (oc w 12, 16, .inl (fun _ => 0))), (u 8, .inl (oc w 12, 16, .inl (fun _ => 0))), (u 9, .inl (oc w 12, 16, .inl (fun _ => 0))), (u 10, .inl (oc w 12, 16, .inl (fun _ => 0)))]
theorem mfi_X6_init : MFi yX6_init RX6 cX6_init 1 := ⟨k_1182, k_126, k_1183, rfl, rfl, by decide, by decide, by decide +kernel⟩
set_option maxRecDepth 100000 in
set_option maxHeartbeats 8000000 in
theorem kc_X6 (l : Launch) (hst : l.stackTraces = false) (w : Om) : KC l yX6_init cX6_init 1 1 20 11 144 6 [.int 0, .int 0, .int 0, .null, .null, .null, .null, .null, .null, .null, .null, .null, .null, .null, .int 0, .int 0, .int 0, .int 0] (ch_X6 w) w := by
  refine KC_of hst (by decide +kernel) RX6 rfl rfl (by decide) (fun W0 h Γ hw C hA hO hini hE => ?_)
  subst hw
  refine k_aload_n C dX6_init_0 0 rfl rfl ?_
  refine k_obj C dX6_init_1 k_1173 k_1150 k_1151 (by decide) (Nat.le_of_ble_eq_true rfl) (by decide) ?_
  refine k_aload_n C dX6_init_4 0 rfl rfl ?_
  refine k_iconst (v := (4 : Int32)) C dX6_init_5 (by decide) ?_
  refine k_newa_I (N := 4) C hA dX6_init_6 k_1153 (by decide) (by decide) (by decide) (by decide) (by decide) (fun q1 => ?_)
  refine k_putF (ci := 6) (j := 3) (i := 0) (X' := [(h, .inr (6, [.int 0, .int 0, .int 0, .ref q1, .null, .null, .null, .null, .null, .null, .null, .null, .null, .null, .int 0, .int 0, .int 0, .int 0])), (q1, .inl (oc (gw Γ) 12, 4, .inl (fun _ => 0)))]) C dX6_init_8 rfl inT_X6 (by decide) k_1174 tyX6 tyX6_ok nmX6 rfl hini rfl rfl rfl rfl (Nat.le_of_ble_eq_true rfl) rfl ?_
  refine k_aload_n C dX6_init_11 0 rfl rfl ?_
  refine k_bipush (v := (12 : Int32)) C dX6_init_12 (by decide) ?_
  refine k_newa_I (N := 12) C hA dX6_init_14 k_1153 (by decide) (by decide) (by decide) (by decide) (by decide) (fun q2 => ?_)
  refine k_putF (ci := 6) (j := 4) (i := 0) (X' := [(h, .inr (6, [.int 0, .int 0, .int 0, .ref q1, .ref q2, .null, .null, .null, .null, .null, .null, .null, .null, .null, .int 0, .int 0, .int 0, .int 0])), (q1, .inl (oc (gw Γ) 12, 4, .inl (fun _ => 0))), (q2, .inl (oc (gw Γ) 12, 12, .inl (fun _ => 0)))]) C dX6_init_16 rfl inT_X6 (by decide) k_1175 tyX6 tyX6_ok nmX6 rfl hini rfl rfl rfl rfl (Nat.le_of_ble_eq_true rfl) rfl ?_
  refine k_aload_n C dX6_init_19 0 rfl rfl ?_
  refine k_bipush (v := (12 : Int32)) C dX6_init_20 (by decide) ?_
  refine k_newa_I (N := 12) C hA dX6_init_22 k_1153 (by decide) (by decide) (by decide) (by decide) (by decide) (fun q3 => ?_)
  refine k_putF (ci := 6) (j := 5) (i := 0) (X' := [(h, .inr (6, [.int 0, .int 0, .int 0, .ref q1, .ref q2, .ref q3, .null, .null, .null, .null, .null, .null, .null, .null, .int 0, .int 0, .int 0, .int 0])), (q1, .inl (oc (gw Γ) 12, 4, .inl (fun _ => 0))), (q2, .inl (oc (gw Γ) 12, 12, .inl (fun _ => 0))), (q3, .inl (oc (gw Γ) 12, 12, .inl (fun _ => 0)))]) C dX6_init_24 rfl inT_X6 (by decide) k_1176 tyX6 tyX6_ok nmX6 rfl hini rfl rfl rfl rfl (Nat.le_of_ble_eq_true rfl) rfl ?_
  refine k_aload_n C dX6_init_27 0 rfl rfl ?_
  refine k_bipush (v := (12 : Int32)) C dX6_init_28 (by decide) ?_
  refine k_newa_I (N := 12) C hA dX6_init_30 k_1153 (by decide) (by decide) (by decide) (by decide) (by decide) (fun q4 => ?_)
  refine k_putF (ci := 6) (j := 6) (i := 0) (X' := [(h, .inr (6, [.int 0, .int 0, .int 0, .ref q1, .ref q2, .ref q3, .ref q4, .null, .null, .null, .null, .null, .null, .null, .int 0, .int 0, .int 0, .int 0])), (q1, .inl (oc (gw Γ) 12, 4, .inl (fun _ => 0))), (q2, .inl (oc (gw Γ) 12, 12, .inl (fun _ => 0))), (q3, .inl (oc (gw Γ) 12, 12, .inl (fun _ => 0))), (q4, .inl (oc (gw Γ) 12, 12, .inl (fun _ => 0)))]) C dX6_init_32 rfl inT_X6 (by decide) k_1177 tyX6 tyX6_ok nmX6 rfl hini rfl rfl rfl rfl (Nat.le_of_ble_eq_true rfl) rfl ?_
  refine k_aload_n C dX6_init_35 0 rfl rfl ?_
  refine k_bipush (v := (12 : Int32)) C dX6_init_36 (by decide) ?_
  refine k_newa_I (N := 12) C hA dX6_init_38 k_1153 (by decide) (by decide) (by decide) (by decide) (by decide) (fun q5 => ?_)
  refine k_putF (ci := 6) (j := 7) (i := 0) (X' := [(h, .inr (6, [.int 0, .int 0, .int 0, .ref q1, .ref q2, .ref q3, .ref q4, .ref q5, .null, .null, .null, .null, .null, .null, .int 0, .int 0, .int 0, .int 0])), (q1, .inl (oc (gw Γ) 12, 4, .inl (fun _ => 0))), (q2, .inl (oc (gw Γ) 12, 12, .inl (fun _ => 0))), (q3, .inl (oc (gw Γ) 12, 12, .inl (fun _ => 0))), (q4, .inl (oc (gw Γ) 12, 12, .inl (fun _ => 0))), (q5, .inl (oc (gw Γ) 12, 12, .inl (fun _ => 0)))]) C dX6_init_40 rfl inT_X6 (by decide) k_105 tyX6 tyX6_ok nmX6 rfl hini rfl rfl rfl rfl (Nat.le_of_ble_eq_true rfl) rfl ?_
  refine k_aload_n C dX6_init_43 0 rfl rfl ?_
  refine k_bipush (v := (12 : Int32)) C dX6_init_44 (by decide) ?_
  refine k_newa_I (N := 12) C hA dX6_init_46 k_1153 (by decide) (by decide) (by decide) (by decide) (by decide) (fun q6 => ?_)
  refine k_putF (ci := 6) (j := 8) (i := 0) (X' := [(h, .inr (6, [.int 0, .int 0, .int 0, .ref q1, .ref q2, .ref q3, .ref q4, .ref q5, .ref q6, .null, .null, .null, .null, .null, .int 0, .int 0, .int 0, .int 0])), (q1, .inl (oc (gw Γ) 12, 4, .inl (fun _ => 0))), (q2, .inl (oc (gw Γ) 12, 12, .inl (fun _ => 0))), (q3, .inl (oc (gw Γ) 12, 12, .inl (fun _ => 0))), (q4, .inl (oc (gw Γ) 12, 12, .inl (fun _ => 0))), (q5, .inl (oc (gw Γ) 12, 12, .inl (fun _ => 0))), (q6, .inl (oc (gw Γ) 12, 12, .inl (fun _ => 0)))]) C dX6_init_48 rfl inT_X6 (by decide) k_213 tyX6 tyX6_ok nmX6 rfl hini rfl rfl rfl rfl (Nat.le_of_ble_eq_true rfl) rfl ?_
  refine k_aload_n C dX6_init_51 0 rfl rfl ?_
  refine k_bipush (v := (16 : Int32)) C dX6_init_52 (by decide) ?_
  refine k_newa_I (N := 16) C hA dX6_init_54 k_1153 (by decide) (by decide) (by decide) (by decide) (by decide) (fun q7 => ?_)
  refine k_putF (ci := 6) (j := 9) (i := 0) (X' := [(h, .inr (6, [.int 0, .int 0, .int 0, .ref q1, .ref q2, .ref q3, .ref q4, .ref q5, .ref q6, .ref q7, .null, .null, .null, .null, .int 0, .int 0, .int 0, .int 0])), (q1, .inl (oc (gw Γ) 12, 4, .inl (fun _ => 0))), (q2, .inl (oc (gw Γ) 12, 12, .inl (fun _ => 0))), (q3, .inl (oc (gw Γ) 12, 12, .inl (fun _ => 0))), (q4, .inl (oc (gw Γ) 12, 12, .inl (fun _ => 0))), (q5, .inl (oc (gw Γ) 12, 12, .inl (fun _ => 0))), (q6, .inl (oc (gw Γ) 12, 12, .inl (fun _ => 0))), (q7, .inl (oc (gw Γ) 12, 16, .inl (fun _ => 0)))]) C dX6_init_56 rfl inT_X6 (by decide) k_1178 tyX6 tyX6_ok nmX6 rfl hini rfl rfl rfl rfl (Nat.le_of_ble_eq_true rfl) rfl ?_
  refine k_aload_n C dX6_init_59 0 rfl rfl ?_
  refine k_bipush (v := (16 : Int32)) C dX6_init_60 (by decide) ?_
  refine k_newa_I (N := 16) C hA dX6_init_62 k_1153 (by decide) (by decide) (by decide) (by decide) (by decide) (fun q8 => ?_)
  refine k_putF (ci := 6) (j := 10) (i := 0) (X' := [(h, .inr (6, [.int 0, .int 0, .int 0, .ref q1, .ref q2, .ref q3, .ref q4, .ref q5, .ref q6, .ref q7, .ref q8, .null, .null, .null, .int 0, .int 0, .int 0, .int 0])), (q1, .inl (oc (gw Γ) 12, 4, .inl (fun _ => 0))), (q2, .inl (oc (gw Γ) 12, 12, .inl (fun _ => 0))), (q3, .inl (oc (gw Γ) 12, 12, .inl (fun _ => 0))), (q4, .inl (oc (gw Γ) 12, 12, .inl (fun _ => 0))), (q5, .inl (oc (gw Γ) 12, 12, .inl (fun _ => 0))), (q6, .inl (oc (gw Γ) 12, 12, .inl (fun _ => 0))), (q7, .inl (oc (gw Γ) 12, 16, .inl (fun _ => 0))), (q8, .inl (oc (gw Γ) 12, 16, .inl (fun _ => 0)))]) C dX6_init_64 rfl inT_X6 (by decide) k_1179 tyX6 tyX6_ok nmX6 rfl hini rfl rfl rfl rfl (Nat.le_of_ble_eq_true rfl) rfl ?_
  refine k_aload_n C dX6_init_67 0 rfl rfl ?_
  refine k_bipush (v := (16 : Int32)) C dX6_init_68 (by decide) ?_
  refine k_newa_I (N := 16) C hA dX6_init_70 k_1153 (by decide) (by decide) (by decide) (by decide) (by decide) (fun q9 => ?_)
  refine k_putF (ci := 6) (j := 11) (i := 0) (X' := [(h, .inr (6, [.int 0, .int 0, .int 0, .ref q1, .ref q2, .ref q3, .ref q4, .ref q5, .ref q6, .ref q7, .ref q8, .ref q9, .null, .null, .int 0, .int 0, .int 0, .int 0])), (q1, .inl (oc (gw Γ) 12, 4, .inl (fun _ => 0))), (q2, .inl (oc (gw Γ) 12, 12, .inl (fun _ => 0))), (q3, .inl (oc (gw Γ) 12, 12, .inl (fun _ => 0))), (q4, .inl (oc (gw Γ) 12, 12, .inl (fun _ => 0))), (q5, .inl (oc (gw Γ) 12, 12, .inl (fun _ => 0))), (q6, .inl (oc (gw Γ) 12, 12, .inl (fun _ => 0))), (q7, .inl (oc (gw Γ) 12, 16, .inl (fun _ => 0))), (q8, .inl (oc (gw Γ) 12, 16, .inl (fun _ => 0))), (q9, .inl (oc (gw Γ) 12, 16, .inl (fun _ => 0)))]) C dX6_init_72 rfl inT_X6 (by decide) k_104 tyX6 tyX6_ok nmX6 rfl hini rfl rfl rfl rfl (Nat.le_of_ble_eq_true rfl) rfl ?_
  refine k_aload_n C dX6_init_75 0 rfl rfl ?_
  refine k_bipush (v := (16 : Int32)) C dX6_init_76 (by decide) ?_
  refine k_newa_I (N := 16) C hA dX6_init_78 k_1153 (by decide) (by decide) (by decide) (by decide) (by decide) (fun q10 => ?_)
  refine k_putF (ci := 6) (j := 12) (i := 0) (X' := [(h, .inr (6, [.int 0, .int 0, .int 0, .ref q1, .ref q2, .ref q3, .ref q4, .ref q5, .ref q6, .ref q7, .ref q8, .ref q9, .ref q10, .null, .int 0, .int 0, .int 0, .int 0])), (q1, .inl (oc (gw Γ) 12, 4, .inl (fun _ => 0))), (q2, .inl (oc (gw Γ) 12, 12, .inl (fun _ => 0))), (q3, .inl (oc (gw Γ) 12, 12, .inl (fun _ => 0))), (q4, .inl (oc (gw Γ) 12, 12, .inl (fun _ => 0))), (q5, .inl (oc (gw Γ) 12, 12, .inl (fun _ => 0))), (q6, .inl (oc (gw Γ) 12, 12, .inl (fun _ => 0))), (q7, .inl (oc (gw Γ) 12, 16, .inl (fun _ => 0))), (q8, .inl (oc (gw Γ) 12, 16, .inl (fun _ => 0))), (q9, .inl (oc (gw Γ) 12, 16, .inl (fun _ => 0))), (q10, .inl (oc (gw Γ) 12, 16, .inl (fun _ => 0)))]) C dX6_init_80 rfl inT_X6 (by decide) k_1180 tyX6 tyX6_ok nmX6 rfl hini rfl rfl rfl rfl (Nat.le_of_ble_eq_true rfl) rfl ?_
  refine k_aload_n C dX6_init_83 0 rfl rfl ?_
  refine k_bipush (v := (16 : Int32)) C dX6_init_84 (by decide) ?_
  refine k_newa_I (N := 16) C hA dX6_init_86 k_1153 (by decide) (by decide) (by decide) (by decide) (by decide) (fun q11 => ?_)
  refine k_putF (ci := 6) (j := 13) (i := 0) (X' := [(h, .inr (6, [.int 0, .int 0, .int 0, .ref q1, .ref q2, .ref q3, .ref q4, .ref q5, .ref q6, .ref q7, .ref q8, .ref q9, .ref q10, .ref q11, .int 0, .int 0, .int 0, .int 0])), (q1, .inl (oc (gw Γ) 12, 4, .inl (fun _ => 0))), (q2, .inl (oc (gw Γ) 12, 12, .inl (fun _ => 0))), (q3, .inl (oc (gw Γ) 12, 12, .inl (fun _ => 0))), (q4, .inl (oc (gw Γ) 12, 12, .inl (fun _ => 0))), (q5, .inl (oc (gw Γ) 12, 12, .inl (fun _ => 0))), (q6, .inl (oc (gw Γ) 12, 12, .inl (fun _ => 0))), (q7, .inl (oc (gw Γ) 12, 16, .inl (fun _ => 0))), (q8, .inl (oc (gw Γ) 12, 16, .inl (fun _ => 0))), (q9, .inl (oc (gw Γ) 12, 16, .inl (fun _ => 0))), (q10, .inl (oc (gw Γ) 12, 16, .inl (fun _ => 0))), (q11, .inl (oc (gw Γ) 12, 16, .inl (fun _ => 0)))]) C dX6_init_88 rfl inT_X6 (by decide) k_1181 tyX6 tyX6_ok nmX6 rfl hini rfl rfl rfl rfl (Nat.le_of_ble_eq_true rfl) rfl ?_
  refine k_aload_n C dX6_init_91 0 rfl rfl ?_
  refine k_iconst (v := (2 : Int32)) C dX6_init_92 (by decide) ?_
  refine k_put (ci := 6) (j := 14) (i := 0) (X' := [(h, .inr (6, [.int 0, .int 0, .int 0, .ref q1, .ref q2, .ref q3, .ref q4, .ref q5, .ref q6, .ref q7, .ref q8, .ref q9, .ref q10, .ref q11, .int (2 : Int32), .int 0, .int 0, .int 0])), (q1, .inl (oc (gw Γ) 12, 4, .inl (fun _ => 0))), (q2, .inl (oc (gw Γ) 12, 12, .inl (fun _ => 0))), (q3, .inl (oc (gw Γ) 12, 12, .inl (fun _ => 0))), (q4, .inl (oc (gw Γ) 12, 12, .inl (fun _ => 0))), (q5, .inl (oc (gw Γ) 12, 12, .inl (fun _ => 0))), (q6, .inl (oc (gw Γ) 12, 12, .inl (fun _ => 0))), (q7, .inl (oc (gw Γ) 12, 16, .inl (fun _ => 0))), (q8, .inl (oc (gw Γ) 12, 16, .inl (fun _ => 0))), (q9, .inl (oc (gw Γ) 12, 16, .inl (fun _ => 0))), (q10, .inl (oc (gw Γ) 12, 16, .inl (fun _ => 0))), (q11, .inl (oc (gw Γ) 12, 16, .inl (fun _ => 0)))]) C dX6_init_93 rfl inT_X6 (by decide) k_215 tyX6 tyX6_ok nmX6 rfl rfl rfl rfl (Nat.le_of_ble_eq_true rfl) rfl ?_
  refine k_aload_n C dX6_init_96 0 rfl rfl ?_
  refine k_bipush (v := (20 : Int32)) C dX6_init_97 (by decide) ?_
  refine k_put (ci := 6) (j := 15) (i := 0) (X' := [(h, .inr (6, [.int 0, .int 0, .int 0, .ref q1, .ref q2, .ref q3, .ref q4, .ref q5, .ref q6, .ref q7, .ref q8, .ref q9, .ref q10, .ref q11, .int (2 : Int32), .int (20 : Int32), .int 0, .int 0])), (q1, .inl (oc (gw Γ) 12, 4, .inl (fun _ => 0))), (q2, .inl (oc (gw Γ) 12, 12, .inl (fun _ => 0))), (q3, .inl (oc (gw Γ) 12, 12, .inl (fun _ => 0))), (q4, .inl (oc (gw Γ) 12, 12, .inl (fun _ => 0))), (q5, .inl (oc (gw Γ) 12, 12, .inl (fun _ => 0))), (q6, .inl (oc (gw Γ) 12, 12, .inl (fun _ => 0))), (q7, .inl (oc (gw Γ) 12, 16, .inl (fun _ => 0))), (q8, .inl (oc (gw Γ) 12, 16, .inl (fun _ => 0))), (q9, .inl (oc (gw Γ) 12, 16, .inl (fun _ => 0))), (q10, .inl (oc (gw Γ) 12, 16, .inl (fun _ => 0))), (q11, .inl (oc (gw Γ) 12, 16, .inl (fun _ => 0)))]) C dX6_init_99 rfl inT_X6 (by decide) k_216 tyX6 tyX6_ok nmX6 rfl rfl rfl rfl (Nat.le_of_ble_eq_true rfl) rfl ?_
  exact hE (fun i => [q1, q2, q3, q4, q5, q6, q7, q8, q9, q10, q11].getD i 0) _ _ 102 _ (by decide) (by decide) dX6_init_102
def ch_X2 (w : Om) (h : Nat) (u : Nat → Nat) : va_W := [(h, .inr (2, [.ref (u 0), .int 0, .int 0])), (u 0, .inl (oc w 14, 10, .inr (.inr (.inr (.inr (va_up (va_up (va_up (va_up (va_up (va_up (va_up (va_up (va_up (va_up (fun _ => none) ((0 : Int32)).toNatClampNeg (some (u 1))) ((1 : Int32)).toNatClampNeg (some (u 4))) ((2 : Int32)).toNatClampNeg (some (u 7))) ((3 : Int32)).toNatClampNeg (some (u 10))) ((4 : Int32)).toNatClampNeg (some (u 13))) ((5 : Int32)).toNatClampNeg (some (u 16))) ((6 : Int32)).toNatClampNeg (some (u 19))) ((7 : Int32)).toNatClampNeg (some (u 22))) ((8 : Int32)).toNatClampNeg (some (u 25))) ((9 : Int32)).toNatClampNeg (some (u 28)))))))), (u 1, .inr (7, [.ref ((u 2)), .ref ((u 3)), .int 0, .int 0])), (u 2, .inl (oc w 12, 192, .inl (fun _ => 0))), (u 3, .inl (oc w 12, 12, .inl (fun _ => 0))), (u 4, .inr (7, [.ref ((u 5)), .ref ((u 6)), .int 0, .int 0])), (u 5, .inl (oc w 12, 192, .inl (fun _ => 0))), (u 6, .inl (oc w 12, 12, .inl (fun _ => 0))), (u 7, .inr (7, [.ref ((u 8)), .ref ((u 9)), .int 0, .int 0])), (u 8, .inl (oc w 12, 192, .inl (fun _ => 0))), (u 9, .inl (oc w 12, 12, .inl (fun _ => 0))), (u 10, .inr (7, [.ref ((u 11)), .ref ((u 12)), .int 0, .int 0])), (u 11, .inl (oc w 12, 192, .inl (fun _ => 0))), (u 12, .inl (oc w 12, 12, .inl (fun _ => 0))), (u 13, .inr (7, [.ref ((u 14)), .ref ((u 15)), .int 0, .int 0])), (u 14, .inl (oc w 12, 192, .inl (fun _ => 0))), (u 15, .inl (oc w 12, 12, .inl (fun _ => 0))), (u 16, .inr (7, [.ref ((u 17)), .ref ((u 18)), .int 0, .int 0])), (u 17, .inl (oc w 12, 192, .inl (fun _ => 0))), (u 18, .inl (oc w 12, 12, .inl (fun _ => 0))), (u 19, .inr (7, [.ref ((u 20)), .ref ((u 21)), .int 0, .int 0])), (u 20, .inl (oc w 12, 192, .inl (fun _ => 0))), (u 21, .inl (oc w 12, 12, .inl (fun _ => 0))), (u 22, .inr (7, [.ref ((u 23)), .ref ((u 24)), .int 0, .int 0])), (u 23, .inl (oc w 12, 192, .inl (fun _ => 0))), (u 24, .inl (oc w 12, 12, .inl (fun _ => 0))), (u 25, .inr (7, [.ref ((u 26)), .ref ((u 27)), .int 0, .int 0])), (u 26, .inl (oc w 12, 192, .inl (fun _ => 0))), (u 27, .inl (oc w 12, 12, .inl (fun _ => 0))), (u 28, .inr (7, [.ref ((u 29)), .ref ((u 30)), .int 0, .int 0])), (u 29, .inl (oc w 12, 192, .inl (fun _ => 0))), (u 30, .inl (oc w 12, 12, .inl (fun _ => 0)))]
theorem mfi_X2_init : MFi yX2_init RX2 cX2_init 2 := ⟨k_1187, k_343, k_1188, rfl, rfl, by decide, by decide, by decide +kernel⟩
set_option maxRecDepth 100000 in
set_option maxHeartbeats 8000000 in
theorem kc_X2 (l : Launch) (hst : l.stackTraces = false) (w : Om) : KC l yX2_init cX2_init 2 2 40 31 2090 2 [.null, .int 0, .int 0] (ch_X2 w) w := by
  refine KC_of hst (by decide +kernel) RX2 rfl rfl (by decide) (fun W0 h Γ hw C hA hO hini hE => ?_)
  subst hw
  refine k_aload_n C dX2_init_0 0 rfl rfl ?_
  refine k_obj C dX2_init_1 k_1184 k_1150 k_1151 (by decide) (Nat.le_of_ble_eq_true rfl) (by decide) ?_
  refine k_aload_n C dX2_init_4 0 rfl rfl ?_
  refine k_bipush (v := (10 : Int32)) C dX2_init_5 (by decide) ?_
  refine k_newq (N := 10) C hA hO dX2_init_7 k_1185 (by decide) (by decide) (by decide) (by decide) (by decide) (fun q1 => ?_)
  refine k_putF (ci := 2) (j := 0) (i := 0) (X' := [(h, .inr (2, [.ref q1, .int 0, .int 0])), (q1, .inl (oc (gw Γ) 14, 10, .inr (.inr (.inr (.inr (fun _ => none))))))]) C dX2_init_10 rfl inT_X2 (by decide) k_52 tyX2 tyX2_ok nmX2 rfl hini rfl rfl rfl rfl (Nat.le_of_ble_eq_true rfl) rfl ?_
  refine k_iconst (v := (0 : Int32)) C dX2_init_13 (by decide) ?_
  refine k_istore_n (lv' := [(1, .int (0 : Int32)), (0, .ref h)]) C dX2_init_14 rfl (by decide) rfl ?_
  refine k_iload_n C dX2_init_15 0 rfl rfl ?_
  refine k_bipush (v := (10 : Int32)) C dX2_init_16 (by decide) ?_
  refine k_icmp_ge (tgt := 40) C dX2_init_18 (by decide) (fun h9 => absurd h9 (by decide)) (fun _ => ?_)
  refine k_aload_n C dX2_init_21 1 rfl rfl ?_
  refine k_getR (ci := 2) (j := 0) (i := 0) C dX2_init_22 rfl inT_X2 (by decide) k_52 rfl rfl ?_
  refine k_iload_n C dX2_init_25 0 rfl rfl ?_
  refine k_new (ci := 7) (fs := [.null, .null, .int 0, .int 0]) C hA dX2_init_26 rfl inT_X7 tyX7 tyX7_ok k_1185 k_1186 k_57 (by decide) (by decide) (by decide) (fun q2 => ?_)
  refine k_dup C dX2_init_29 rfl ?_
  refine k_initN (h := q2) (st := [.ref q2, .int (0 : Int32), .ref q1]) (c9 := 2) (s9 := 14) (Xp := [(h, .inr (2, [.ref q1, .int 0, .int 0])), (q1, .inl (oc (gw Γ) 14, 10, .inr (.inr (.inr (.inr (fun _ => none))))))]) C hO dX2_init_30 mfi_X7_init (List.mem_of_getElem? (i := 5) rfl) ⟨by decide, by decide⟩ (Nat.le_of_ble_eq_true rfl) ⟨by decide, by decide⟩ (kc_X7 _ C.2.2.2.2 (gw Γ)) (fun u3 => ?_)
  refine k_aast (i := 1) (i2 := 2) (X' := ([(h, .inr (2, [.ref q1, .int 0, .int 0])), (q1, .inl (oc (gw Γ) 14, 10, .inr (.inr (.inr (.inr (va_up (fun _ => none) ((0 : Int32)).toNatClampNeg (some q2)))))))] ++ ch_X7 (gw Γ) q2 u3)) C dX2_init_33 rfl rfl (by unfold vp_in; decide) rfl ?_
  refine k_iinc (q := 0) (v := (1 : Int32)) (lv' := [(1, .int (1 : Int32)), (0, .ref h)]) C dX2_init_34 rfl (by decide) (by decide) rfl ?_
  refine k_goto (tgt := 15) C dX2_init_37 (by decide) ?_
  refine k_iload_n C dX2_init_15 0 rfl rfl ?_
  refine k_bipush (v := (10 : Int32)) C dX2_init_16 (by decide) ?_
  refine k_icmp_ge (tgt := 40) C dX2_init_18 (by decide) (fun h9 => absurd h9 (by decide)) (fun _ => ?_)
  refine k_aload_n C dX2_init_21 1 rfl rfl ?_
  refine k_getR (ci := 2) (j := 0) (i := 0) C dX2_init_22 rfl inT_X2 (by decide) k_52 rfl rfl ?_
  refine k_iload_n C dX2_init_25 0 rfl rfl ?_
  refine k_new (ci := 7) (fs := [.null, .null, .int 0, .int 0]) C hA dX2_init_26 rfl inT_X7 tyX7 tyX7_ok k_1185 k_1186 k_57 (by decide) (by decide) (by decide) (fun q4 => ?_)
  refine k_dup C dX2_init_29 rfl ?_
  refine k_initN (h := q4) (st := [.ref q4, .int (1 : Int32), .ref q1]) (c9 := 5) (s9 := 222) (Xp := ([(h, .inr (2, [.ref q1, .int 0, .int 0])), (q1, .inl (oc (gw Γ) 14, 10, .inr (.inr (.inr (.inr (va_up (fun _ => none) ((0 : Int32)).toNatClampNeg (some q2)))))))] ++ ch_X7 (gw Γ) q2 u3)) C hO dX2_init_30 mfi_X7_init (List.mem_of_getElem? (i := 5) rfl) ⟨by decide, by decide⟩ (Nat.le_of_ble_eq_true rfl) ⟨by decide, by decide⟩ (kc_X7 _ C.2.2.2.2 (gw Γ)) (fun u5 => ?_)
  refine k_aast (i := 1) (i2 := 5) (X' := (([(h, .inr (2, [.ref q1, .int 0, .int 0])), (q1, .inl (oc (gw Γ) 14, 10, .inr (.inr (.inr (.inr (va_up (va_up (fun _ => none) ((0 : Int32)).toNatClampNeg (some q2)) ((1 : Int32)).toNatClampNeg (some q4)))))))] ++ ch_X7 (gw Γ) q2 u3) ++ ch_X7 (gw Γ) q4 u5)) C dX2_init_33 rfl rfl (by unfold vp_in; decide) rfl ?_
  refine k_iinc (q := 0) (v := (2 : Int32)) (lv' := [(1, .int (2 : Int32)), (0, .ref h)]) C dX2_init_34 rfl (by decide) (by decide) rfl ?_
  refine k_goto (tgt := 15) C dX2_init_37 (by decide) ?_
  refine k_iload_n C dX2_init_15 0 rfl rfl ?_
  refine k_bipush (v := (10 : Int32)) C dX2_init_16 (by decide) ?_
  refine k_icmp_ge (tgt := 40) C dX2_init_18 (by decide) (fun h9 => absurd h9 (by decide)) (fun _ => ?_)
  refine k_aload_n C dX2_init_21 1 rfl rfl ?_
  refine k_getR (ci := 2) (j := 0) (i := 0) C dX2_init_22 rfl inT_X2 (by decide) k_52 rfl rfl ?_
  refine k_iload_n C dX2_init_25 0 rfl rfl ?_
  refine k_new (ci := 7) (fs := [.null, .null, .int 0, .int 0]) C hA dX2_init_26 rfl inT_X7 tyX7 tyX7_ok k_1185 k_1186 k_57 (by decide) (by decide) (by decide) (fun q6 => ?_)
  refine k_dup C dX2_init_29 rfl ?_
  refine k_initN (h := q6) (st := [.ref q6, .int (2 : Int32), .ref q1]) (c9 := 8) (s9 := 430) (Xp := (([(h, .inr (2, [.ref q1, .int 0, .int 0])), (q1, .inl (oc (gw Γ) 14, 10, .inr (.inr (.inr (.inr (va_up (va_up (fun _ => none) ((0 : Int32)).toNatClampNeg (some q2)) ((1 : Int32)).toNatClampNeg (some q4)))))))] ++ ch_X7 (gw Γ) q2 u3) ++ ch_X7 (gw Γ) q4 u5)) C hO dX2_init_30 mfi_X7_init (List.mem_of_getElem? (i := 5) rfl) ⟨by decide, by decide⟩ (Nat.le_of_ble_eq_true rfl) ⟨by decide, by decide⟩ (kc_X7 _ C.2.2.2.2 (gw Γ)) (fun u7 => ?_)
  refine k_aast (i := 1) (i2 := 8) (X' := ((([(h, .inr (2, [.ref q1, .int 0, .int 0])), (q1, .inl (oc (gw Γ) 14, 10, .inr (.inr (.inr (.inr (va_up (va_up (va_up (fun _ => none) ((0 : Int32)).toNatClampNeg (some q2)) ((1 : Int32)).toNatClampNeg (some q4)) ((2 : Int32)).toNatClampNeg (some q6)))))))] ++ ch_X7 (gw Γ) q2 u3) ++ ch_X7 (gw Γ) q4 u5) ++ ch_X7 (gw Γ) q6 u7)) C dX2_init_33 rfl rfl (by unfold vp_in; decide) rfl ?_
  refine k_iinc (q := 0) (v := (3 : Int32)) (lv' := [(1, .int (3 : Int32)), (0, .ref h)]) C dX2_init_34 rfl (by decide) (by decide) rfl ?_
  refine k_goto (tgt := 15) C dX2_init_37 (by decide) ?_
  refine k_iload_n C dX2_init_15 0 rfl rfl ?_
  refine k_bipush (v := (10 : Int32)) C dX2_init_16 (by decide) ?_
  refine k_icmp_ge (tgt := 40) C dX2_init_18 (by decide) (fun h9 => absurd h9 (by decide)) (fun _ => ?_)
  refine k_aload_n C dX2_init_21 1 rfl rfl ?_
  refine k_getR (ci := 2) (j := 0) (i := 0) C dX2_init_22 rfl inT_X2 (by decide) k_52 rfl rfl ?_
  refine k_iload_n C dX2_init_25 0 rfl rfl ?_
  refine k_new (ci := 7) (fs := [.null, .null, .int 0, .int 0]) C hA dX2_init_26 rfl inT_X7 tyX7 tyX7_ok k_1185 k_1186 k_57 (by decide) (by decide) (by decide) (fun q8 => ?_)
  refine k_dup C dX2_init_29 rfl ?_
  refine k_initN (h := q8) (st := [.ref q8, .int (3 : Int32), .ref q1]) (c9 := 11) (s9 := 638) (Xp := ((([(h, .inr (2, [.ref q1, .int 0, .int 0])), (q1, .inl (oc (gw Γ) 14, 10, .inr (.inr (.inr (.inr (va_up (va_up (va_up (fun _ => none) ((0 : Int32)).toNatClampNeg (some q2)) ((1 : Int32)).toNatClampNeg (some q4)) ((2 : Int32)).toNatClampNeg (some q6)))))))] ++ ch_X7 (gw Γ) q2 u3) ++ ch_X7 (gw Γ) q4 u5) ++ ch_X7 (gw Γ) q6 u7)) C hO dX2_init_30 mfi_X7_init (List.mem_of_getElem? (i := 5) rfl) ⟨by decide, by decide⟩ (Nat.le_of_ble_eq_true rfl) ⟨by decide, by decide⟩ (kc_X7 _ C.2.2.2.2 (gw Γ)) (fun u9 => ?_)
  refine k_aast (i := 1) (i2 := 11) (X' := (((([(h, .inr (2, [.ref q1, .int 0, .int 0])), (q1, .inl (oc (gw Γ) 14, 10, .inr (.inr (.inr (.inr (va_up (va_up (va_up (va_up (fun _ => none) ((0 : Int32)).toNatClampNeg (some q2)) ((1 : Int32)).toNatClampNeg (some q4)) ((2 : Int32)).toNatClampNeg (some q6)) ((3 : Int32)).toNatClampNeg (some q8)))))))] ++ ch_X7 (gw Γ) q2 u3) ++ ch_X7 (gw Γ) q4 u5) ++ ch_X7 (gw Γ) q6 u7) ++ ch_X7 (gw Γ) q8 u9)) C dX2_init_33 rfl rfl (by unfold vp_in; decide) rfl ?_
  refine k_iinc (q := 0) (v := (4 : Int32)) (lv' := [(1, .int (4 : Int32)), (0, .ref h)]) C dX2_init_34 rfl (by decide) (by decide) rfl ?_
  refine k_goto (tgt := 15) C dX2_init_37 (by decide) ?_
  refine k_iload_n C dX2_init_15 0 rfl rfl ?_
  refine k_bipush (v := (10 : Int32)) C dX2_init_16 (by decide) ?_
  refine k_icmp_ge (tgt := 40) C dX2_init_18 (by decide) (fun h9 => absurd h9 (by decide)) (fun _ => ?_)
  refine k_aload_n C dX2_init_21 1 rfl rfl ?_
  refine k_getR (ci := 2) (j := 0) (i := 0) C dX2_init_22 rfl inT_X2 (by decide) k_52 rfl rfl ?_
  refine k_iload_n C dX2_init_25 0 rfl rfl ?_
  refine k_new (ci := 7) (fs := [.null, .null, .int 0, .int 0]) C hA dX2_init_26 rfl inT_X7 tyX7 tyX7_ok k_1185 k_1186 k_57 (by decide) (by decide) (by decide) (fun q10 => ?_)
  refine k_dup C dX2_init_29 rfl ?_
  refine k_initN (h := q10) (st := [.ref q10, .int (4 : Int32), .ref q1]) (c9 := 14) (s9 := 846) (Xp := (((([(h, .inr (2, [.ref q1, .int 0, .int 0])), (q1, .inl (oc (gw Γ) 14, 10, .inr (.inr (.inr (.inr (va_up (va_up (va_up (va_up (fun _ => none) ((0 : Int32)).toNatClampNeg (some q2)) ((1 : Int32)).toNatClampNeg (some q4)) ((2 : Int32)).toNatClampNeg (some q6)) ((3 : Int32)).toNatClampNeg (some q8)))))))] ++ ch_X7 (gw Γ) q2 u3) ++ ch_X7 (gw Γ) q4 u5) ++ ch_X7 (gw Γ) q6 u7) ++ ch_X7 (gw Γ) q8 u9)) C hO dX2_init_30 mfi_X7_init (List.mem_of_getElem? (i := 5) rfl) ⟨by decide, by decide⟩ (Nat.le_of_ble_eq_true rfl) ⟨by decide, by decide⟩ (kc_X7 _ C.2.2.2.2 (gw Γ)) (fun u11 => ?_)
  refine k_aast (i := 1) (i2 := 14) (X' := ((((([(h, .inr (2, [.ref q1, .int 0, .int 0])), (q1, .inl (oc (gw Γ) 14, 10, .inr (.inr (.inr (.inr (va_up (va_up (va_up (va_up (va_up (fun _ => none) ((0 : Int32)).toNatClampNeg (some q2)) ((1 : Int32)).toNatClampNeg (some q4)) ((2 : Int32)).toNatClampNeg (some q6)) ((3 : Int32)).toNatClampNeg (some q8)) ((4 : Int32)).toNatClampNeg (some q10)))))))] ++ ch_X7 (gw Γ) q2 u3) ++ ch_X7 (gw Γ) q4 u5) ++ ch_X7 (gw Γ) q6 u7) ++ ch_X7 (gw Γ) q8 u9) ++ ch_X7 (gw Γ) q10 u11)) C dX2_init_33 rfl rfl (by unfold vp_in; decide) rfl ?_
  refine k_iinc (q := 0) (v := (5 : Int32)) (lv' := [(1, .int (5 : Int32)), (0, .ref h)]) C dX2_init_34 rfl (by decide) (by decide) rfl ?_
  refine k_goto (tgt := 15) C dX2_init_37 (by decide) ?_
  refine k_iload_n C dX2_init_15 0 rfl rfl ?_
  refine k_bipush (v := (10 : Int32)) C dX2_init_16 (by decide) ?_
  refine k_icmp_ge (tgt := 40) C dX2_init_18 (by decide) (fun h9 => absurd h9 (by decide)) (fun _ => ?_)
  refine k_aload_n C dX2_init_21 1 rfl rfl ?_
  refine k_getR (ci := 2) (j := 0) (i := 0) C dX2_init_22 rfl inT_X2 (by decide) k_52 rfl rfl ?_
  refine k_iload_n C dX2_init_25 0 rfl rfl ?_
  refine k_new (ci := 7) (fs := [.null, .null, .int 0, .int 0]) C hA dX2_init_26 rfl inT_X7 tyX7 tyX7_ok k_1185 k_1186 k_57 (by decide) (by decide) (by decide) (fun q12 => ?_)
  refine k_dup C dX2_init_29 rfl ?_
  refine k_initN (h := q12) (st := [.ref q12, .int (5 : Int32), .ref q1]) (c9 := 17) (s9 := 1054) (Xp := ((((([(h, .inr (2, [.ref q1, .int 0, .int 0])), (q1, .inl (oc (gw Γ) 14, 10, .inr (.inr (.inr (.inr (va_up (va_up (va_up (va_up (va_up (fun _ => none) ((0 : Int32)).toNatClampNeg (some q2)) ((1 : Int32)).toNatClampNeg (some q4)) ((2 : Int32)).toNatClampNeg (some q6)) ((3 : Int32)).toNatClampNeg (some q8)) ((4 : Int32)).toNatClampNeg (some q10)))))))] ++ ch_X7 (gw Γ) q2 u3) ++ ch_X7 (gw Γ) q4 u5) ++ ch_X7 (gw Γ) q6 u7) ++ ch_X7 (gw Γ) q8 u9) ++ ch_X7 (gw Γ) q10 u11)) C hO dX2_init_30 mfi_X7_init (List.mem_of_getElem? (i := 5) rfl) ⟨by decide, by decide⟩ (Nat.le_of_ble_eq_true rfl) ⟨by decide, by decide⟩ (kc_X7 _ C.2.2.2.2 (gw Γ)) (fun u13 => ?_)
  refine k_aast (i := 1) (i2 := 17) (X' := (((((([(h, .inr (2, [.ref q1, .int 0, .int 0])), (q1, .inl (oc (gw Γ) 14, 10, .inr (.inr (.inr (.inr (va_up (va_up (va_up (va_up (va_up (va_up (fun _ => none) ((0 : Int32)).toNatClampNeg (some q2)) ((1 : Int32)).toNatClampNeg (some q4)) ((2 : Int32)).toNatClampNeg (some q6)) ((3 : Int32)).toNatClampNeg (some q8)) ((4 : Int32)).toNatClampNeg (some q10)) ((5 : Int32)).toNatClampNeg (some q12)))))))] ++ ch_X7 (gw Γ) q2 u3) ++ ch_X7 (gw Γ) q4 u5) ++ ch_X7 (gw Γ) q6 u7) ++ ch_X7 (gw Γ) q8 u9) ++ ch_X7 (gw Γ) q10 u11) ++ ch_X7 (gw Γ) q12 u13)) C dX2_init_33 rfl rfl (by unfold vp_in; decide) rfl ?_
  refine k_iinc (q := 0) (v := (6 : Int32)) (lv' := [(1, .int (6 : Int32)), (0, .ref h)]) C dX2_init_34 rfl (by decide) (by decide) rfl ?_
  refine k_goto (tgt := 15) C dX2_init_37 (by decide) ?_
  refine k_iload_n C dX2_init_15 0 rfl rfl ?_
  refine k_bipush (v := (10 : Int32)) C dX2_init_16 (by decide) ?_
  refine k_icmp_ge (tgt := 40) C dX2_init_18 (by decide) (fun h9 => absurd h9 (by decide)) (fun _ => ?_)
  refine k_aload_n C dX2_init_21 1 rfl rfl ?_
  refine k_getR (ci := 2) (j := 0) (i := 0) C dX2_init_22 rfl inT_X2 (by decide) k_52 rfl rfl ?_
  refine k_iload_n C dX2_init_25 0 rfl rfl ?_
  refine k_new (ci := 7) (fs := [.null, .null, .int 0, .int 0]) C hA dX2_init_26 rfl inT_X7 tyX7 tyX7_ok k_1185 k_1186 k_57 (by decide) (by decide) (by decide) (fun q14 => ?_)
  refine k_dup C dX2_init_29 rfl ?_
  refine k_initN (h := q14) (st := [.ref q14, .int (6 : Int32), .ref q1]) (c9 := 20) (s9 := 1262) (Xp := (((((([(h, .inr (2, [.ref q1, .int 0, .int 0])), (q1, .inl (oc (gw Γ) 14, 10, .inr (.inr (.inr (.inr (va_up (va_up (va_up (va_up (va_up (va_up (fun _ => none) ((0 : Int32)).toNatClampNeg (some q2)) ((1 : Int32)).toNatClampNeg (some q4)) ((2 : Int32)).toNatClampNeg (some q6)) ((3 : Int32)).toNatClampNeg (some q8)) ((4 : Int32)).toNatClampNeg (some q10)) ((5 : Int32)).toNatClampNeg (some q12)))))))] ++ ch_X7 (gw Γ) q2 u3) ++ ch_X7 (gw Γ) q4 u5) ++ ch_X7 (gw Γ) q6 u7) ++ ch_X7 (gw Γ) q8 u9) ++ ch_X7 (gw Γ) q10 u11) ++ ch_X7 (gw Γ) q12 u13)) C hO dX2_init_30 mfi_X7_init (List.mem_of_getElem? (i := 5) rfl) ⟨by decide, by decide⟩ (Nat.le_of_ble_eq_true rfl) ⟨by decide, by decide⟩ (kc_X7 _ C.2.2.2.2 (gw Γ)) (fun u15 => ?_)
  refine k_aast (i := 1) (i2 := 20) (X' := ((((((([(h, .inr (2, [.ref q1, .int 0, .int 0])), (q1, .inl (oc (gw Γ) 14, 10, .inr (.inr (.inr (.inr (va_up (va_up (va_up (va_up (va_up (va_up (va_up (fun _ => none) ((0 : Int32)).toNatClampNeg (some q2)) ((1 : Int32)).toNatClampNeg (some q4)) ((2 : Int32)).toNatClampNeg (some q6)) ((3 : Int32)).toNatClampNeg (some q8)) ((4 : Int32)).toNatClampNeg (some q10)) ((5 : Int32)).toNatClampNeg (some q12)) ((6 : Int32)).toNatClampNeg (some q14)))))))] ++ ch_X7 (gw Γ) q2 u3) ++ ch_X7 (gw Γ) q4 u5) ++ ch_X7 (gw Γ) q6 u7) ++ ch_X7 (gw Γ) q8 u9) ++ ch_X7 (gw Γ) q10 u11) ++ ch_X7 (gw Γ) q12 u13) ++ ch_X7 (gw Γ) q14 u15)) C dX2_init_33 rfl rfl (by unfold vp_in; decide) rfl ?_
  refine k_iinc (q := 0) (v := (7 : Int32)) (lv' := [(1, .int (7 : Int32)), (0, .ref h)]) C dX2_init_34 rfl (by decide) (by decide) rfl ?_
  refine k_goto (tgt := 15) C dX2_init_37 (by decide) ?_
  refine k_iload_n C dX2_init_15 0 rfl rfl ?_
  refine k_bipush (v := (10 : Int32)) C dX2_init_16 (by decide) ?_
  refine k_icmp_ge (tgt := 40) C dX2_init_18 (by decide) (fun h9 => absurd h9 (by decide)) (fun _ => ?_)
  refine k_aload_n C dX2_init_21 1 rfl rfl ?_
  refine k_getR (ci := 2) (j := 0) (i := 0) C dX2_init_22 rfl inT_X2 (by decide) k_52 rfl rfl ?_
  refine k_iload_n C dX2_init_25 0 rfl rfl ?_
  refine k_new (ci := 7) (fs := [.null, .null, .int 0, .int 0]) C hA dX2_init_26 rfl inT_X7 tyX7 tyX7_ok k_1185 k_1186 k_57 (by decide) (by decide) (by decide) (fun q16 => ?_)
  refine k_dup C dX2_init_29 rfl ?_
  refine k_initN (h := q16) (st := [.ref q16, .int (7 : Int32), .ref q1]) (c9 := 23) (s9 := 1470) (Xp := ((((((([(h, .inr (2, [.ref q1, .int 0, .int 0])), (q1, .inl (oc (gw Γ) 14, 10, .inr (.inr (.inr (.inr (va_up (va_up (va_up (va_up (va_up (va_up (va_up (fun _ => none) ((0 : Int32)).toNatClampNeg (some q2)) ((1 : Int32)).toNatClampNeg (some q4)) ((2 : Int32)).toNatClampNeg (some q6)) ((3 : Int32)).toNatClampNeg (some q8)) ((4 : Int32)).toNatClampNeg (some q10)) ((5 : Int32)).toNatClampNeg (some q12)) ((6 : Int32)).toNatClampNeg (some q14)))))))] ++ ch_X7 (gw Γ) q2 u3) ++ ch_X7 (gw Γ) q4 u5) ++ ch_X7 (gw Γ) q6 u7) ++ ch_X7 (gw Γ) q8 u9) ++ ch_X7 (gw Γ) q10 u11) ++ ch_X7 (gw Γ) q12 u13) ++ ch_X7 (gw Γ) q14 u15)) C hO dX2_init_30 mfi_X7_init (List.mem_of_getElem? (i := 5) rfl) ⟨by decide, by decide⟩ (Nat.le_of_ble_eq_true rfl) ⟨by decide, by decide⟩ (kc_X7 _ C.2.2.2.2 (gw Γ)) (fun u17 => ?_)
  refine k_aast (i := 1) (i2 := 23) (X' := (((((((([(h, .inr (2, [.ref q1, .int 0, .int 0])), (q1, .inl (oc (gw Γ) 14, 10, .inr (.inr (.inr (.inr (va_up (va_up (va_up (va_up (va_up (va_up (va_up (va_up (fun _ => none) ((0 : Int32)).toNatClampNeg (some q2)) ((1 : Int32)).toNatClampNeg (some q4)) ((2 : Int32)).toNatClampNeg (some q6)) ((3 : Int32)).toNatClampNeg (some q8)) ((4 : Int32)).toNatClampNeg (some q10)) ((5 : Int32)).toNatClampNeg (some q12)) ((6 : Int32)).toNatClampNeg (some q14)) ((7 : Int32)).toNatClampNeg (some q16)))))))] ++ ch_X7 (gw Γ) q2 u3) ++ ch_X7 (gw Γ) q4 u5) ++ ch_X7 (gw Γ) q6 u7) ++ ch_X7 (gw Γ) q8 u9) ++ ch_X7 (gw Γ) q10 u11) ++ ch_X7 (gw Γ) q12 u13) ++ ch_X7 (gw Γ) q14 u15) ++ ch_X7 (gw Γ) q16 u17)) C dX2_init_33 rfl rfl (by unfold vp_in; decide) rfl ?_
  refine k_iinc (q := 0) (v := (8 : Int32)) (lv' := [(1, .int (8 : Int32)), (0, .ref h)]) C dX2_init_34 rfl (by decide) (by decide) rfl ?_
  refine k_goto (tgt := 15) C dX2_init_37 (by decide) ?_
  refine k_iload_n C dX2_init_15 0 rfl rfl ?_
  refine k_bipush (v := (10 : Int32)) C dX2_init_16 (by decide) ?_
  refine k_icmp_ge (tgt := 40) C dX2_init_18 (by decide) (fun h9 => absurd h9 (by decide)) (fun _ => ?_)
  refine k_aload_n C dX2_init_21 1 rfl rfl ?_
  refine k_getR (ci := 2) (j := 0) (i := 0) C dX2_init_22 rfl inT_X2 (by decide) k_52 rfl rfl ?_
  refine k_iload_n C dX2_init_25 0 rfl rfl ?_
  refine k_new (ci := 7) (fs := [.null, .null, .int 0, .int 0]) C hA dX2_init_26 rfl inT_X7 tyX7 tyX7_ok k_1185 k_1186 k_57 (by decide) (by decide) (by decide) (fun q18 => ?_)
  refine k_dup C dX2_init_29 rfl ?_
  refine k_initN (h := q18) (st := [.ref q18, .int (8 : Int32), .ref q1]) (c9 := 26) (s9 := 1678) (Xp := (((((((([(h, .inr (2, [.ref q1, .int 0, .int 0])), (q1, .inl (oc (gw Γ) 14, 10, .inr (.inr (.inr (.inr (va_up (va_up (va_up (va_up (va_up (va_up (va_up (va_up (fun _ => none) ((0 : Int32)).toNatClampNeg (some q2)) ((1 : Int32)).toNatClampNeg (some q4)) ((2 : Int32)).toNatClampNeg (some q6)) ((3 : Int32)).toNatClampNeg (some q8)) ((4 : Int32)).toNatClampNeg (some q10)) ((5 : Int32)).toNatClampNeg (some q12)) ((6 : Int32)).toNatClampNeg (some q14)) ((7 : Int32)).toNatClampNeg (some q16)))))))] ++ ch_X7 (gw Γ) q2 u3) ++ ch_X7 (gw Γ) q4 u5) ++ ch_X7 (gw Γ) q6 u7) ++ ch_X7 (gw Γ) q8 u9) ++ ch_X7 (gw Γ) q10 u11) ++ ch_X7 (gw Γ) q12 u13) ++ ch_X7 (gw Γ) q14 u15) ++ ch_X7 (gw Γ) q16 u17)) C hO dX2_init_30 mfi_X7_init (List.mem_of_getElem? (i := 5) rfl) ⟨by decide, by decide⟩ (Nat.le_of_ble_eq_true rfl) ⟨by decide, by decide⟩ (kc_X7 _ C.2.2.2.2 (gw Γ)) (fun u19 => ?_)
  refine k_aast (i := 1) (i2 := 26) (X' := ((((((((([(h, .inr (2, [.ref q1, .int 0, .int 0])), (q1, .inl (oc (gw Γ) 14, 10, .inr (.inr (.inr (.inr (va_up (va_up (va_up (va_up (va_up (va_up (va_up (va_up (va_up (fun _ => none) ((0 : Int32)).toNatClampNeg (some q2)) ((1 : Int32)).toNatClampNeg (some q4)) ((2 : Int32)).toNatClampNeg (some q6)) ((3 : Int32)).toNatClampNeg (some q8)) ((4 : Int32)).toNatClampNeg (some q10)) ((5 : Int32)).toNatClampNeg (some q12)) ((6 : Int32)).toNatClampNeg (some q14)) ((7 : Int32)).toNatClampNeg (some q16)) ((8 : Int32)).toNatClampNeg (some q18)))))))] ++ ch_X7 (gw Γ) q2 u3) ++ ch_X7 (gw Γ) q4 u5) ++ ch_X7 (gw Γ) q6 u7) ++ ch_X7 (gw Γ) q8 u9) ++ ch_X7 (gw Γ) q10 u11) ++ ch_X7 (gw Γ) q12 u13) ++ ch_X7 (gw Γ) q14 u15) ++ ch_X7 (gw Γ) q16 u17) ++ ch_X7 (gw Γ) q18 u19)) C dX2_init_33 rfl rfl (by unfold vp_in; decide) rfl ?_
  refine k_iinc (q := 0) (v := (9 : Int32)) (lv' := [(1, .int (9 : Int32)), (0, .ref h)]) C dX2_init_34 rfl (by decide) (by decide) rfl ?_
  refine k_goto (tgt := 15) C dX2_init_37 (by decide) ?_
  refine k_iload_n C dX2_init_15 0 rfl rfl ?_
  refine k_bipush (v := (10 : Int32)) C dX2_init_16 (by decide) ?_
  refine k_icmp_ge (tgt := 40) C dX2_init_18 (by decide) (fun h9 => absurd h9 (by decide)) (fun _ => ?_)
  refine k_aload_n C dX2_init_21 1 rfl rfl ?_
  refine k_getR (ci := 2) (j := 0) (i := 0) C dX2_init_22 rfl inT_X2 (by decide) k_52 rfl rfl ?_
  refine k_iload_n C dX2_init_25 0 rfl rfl ?_
  refine k_new (ci := 7) (fs := [.null, .null, .int 0, .int 0]) C hA dX2_init_26 rfl inT_X7 tyX7 tyX7_ok k_1185 k_1186 k_57 (by decide) (by decide) (by decide) (fun q20 => ?_)
  refine k_dup C dX2_init_29 rfl ?_
  refine k_initN (h := q20) (st := [.ref q20, .int (9 : Int32), .ref q1]) (c9 := 29) (s9 := 1886) (Xp := ((((((((([(h, .inr (2, [.ref q1, .int 0, .int 0])), (q1, .inl (oc (gw Γ) 14, 10, .inr (.inr (.inr (.inr (va_up (va_up (va_up (va_up (va_up (va_up (va_up (va_up (va_up (fun _ => none) ((0 : Int32)).toNatClampNeg (some q2)) ((1 : Int32)).toNatClampNeg (some q4)) ((2 : Int32)).toNatClampNeg (some q6)) ((3 : Int32)).toNatClampNeg (some q8)) ((4 : Int32)).toNatClampNeg (some q10)) ((5 : Int32)).toNatClampNeg (some q12)) ((6 : Int32)).toNatClampNeg (some q14)) ((7 : Int32)).toNatClampNeg (some q16)) ((8 : Int32)).toNatClampNeg (some q18)))))))] ++ ch_X7 (gw Γ) q2 u3) ++ ch_X7 (gw Γ) q4 u5) ++ ch_X7 (gw Γ) q6 u7) ++ ch_X7 (gw Γ) q8 u9) ++ ch_X7 (gw Γ) q10 u11) ++ ch_X7 (gw Γ) q12 u13) ++ ch_X7 (gw Γ) q14 u15) ++ ch_X7 (gw Γ) q16 u17) ++ ch_X7 (gw Γ) q18 u19)) C hO dX2_init_30 mfi_X7_init (List.mem_of_getElem? (i := 5) rfl) ⟨by decide, by decide⟩ (Nat.le_of_ble_eq_true rfl) ⟨by decide, by decide⟩ (kc_X7 _ C.2.2.2.2 (gw Γ)) (fun u21 => ?_)
  refine k_aast (i := 1) (i2 := 29) (X' := (((((((((([(h, .inr (2, [.ref q1, .int 0, .int 0])), (q1, .inl (oc (gw Γ) 14, 10, .inr (.inr (.inr (.inr (va_up (va_up (va_up (va_up (va_up (va_up (va_up (va_up (va_up (va_up (fun _ => none) ((0 : Int32)).toNatClampNeg (some q2)) ((1 : Int32)).toNatClampNeg (some q4)) ((2 : Int32)).toNatClampNeg (some q6)) ((3 : Int32)).toNatClampNeg (some q8)) ((4 : Int32)).toNatClampNeg (some q10)) ((5 : Int32)).toNatClampNeg (some q12)) ((6 : Int32)).toNatClampNeg (some q14)) ((7 : Int32)).toNatClampNeg (some q16)) ((8 : Int32)).toNatClampNeg (some q18)) ((9 : Int32)).toNatClampNeg (some q20)))))))] ++ ch_X7 (gw Γ) q2 u3) ++ ch_X7 (gw Γ) q4 u5) ++ ch_X7 (gw Γ) q6 u7) ++ ch_X7 (gw Γ) q8 u9) ++ ch_X7 (gw Γ) q10 u11) ++ ch_X7 (gw Γ) q12 u13) ++ ch_X7 (gw Γ) q14 u15) ++ ch_X7 (gw Γ) q16 u17) ++ ch_X7 (gw Γ) q18 u19) ++ ch_X7 (gw Γ) q20 u21)) C dX2_init_33 rfl rfl (by unfold vp_in; decide) rfl ?_
  refine k_iinc (q := 0) (v := (10 : Int32)) (lv' := [(1, .int (10 : Int32)), (0, .ref h)]) C dX2_init_34 rfl (by decide) (by decide) rfl ?_
  refine k_goto (tgt := 15) C dX2_init_37 (by decide) ?_
  refine k_iload_n C dX2_init_15 0 rfl rfl ?_
  refine k_bipush (v := (10 : Int32)) C dX2_init_16 (by decide) ?_
  refine k_icmp_ge (tgt := 40) C dX2_init_18 (by decide) (fun _ => ?_) (fun h9 => absurd (by decide) h9)
  exact hE (fun i => [q1, q2, u3 0, u3 1, q4, u5 0, u5 1, q6, u7 0, u7 1, q8, u9 0, u9 1, q10, u11 0, u11 1, q12, u13 0, u13 1, q14, u15 0, u15 1, q16, u17 0, u17 1, q18, u19 0, u19 1, q20, u21 0, u21 1].getD i 0) _ _ 40 _ (by decide) (by decide) dX2_init_40
def ch_X3 (w : Om) (h : Nat) (u : Nat → Nat) : va_W := [(h, .inr (3, [.ref (u 0), .ref (u 5), .int 0])), (u 0, .inr (0, [.ref ((u 1)), .ref ((u 2)), .int (1 : Int32), .ref ((u 3)), .ref ((u 4)), .int 0])), (u 1, .inl (oc w 12, 256, .inl (fun _ => 0))), (u 2, .inl (oc w 12, 256, .inl (fun _ => 0))), (u 3, .inl (oc w 12, 256, .inl (fun _ => 0))), (u 4, .inl (oc w 12, 256, .inl (fun _ => 0))), (u 5, .inr (0, [.ref ((u 6)), .ref ((u 7)), .int (1 : Int32), .ref ((u 8)), .ref ((u 9)), .int 0])), (u 6, .inl (oc w 12, 256, .inl (fun _ => 0))), (u 7, .inl (oc w 12, 256, .inl (fun _ => 0))), (u 8, .inl (oc w 12, 256, .inl (fun _ => 0))), (u 9, .inl (oc w 12, 256, .inl (fun _ => 0)))]
theorem mfi_X3_init : MFi yX3_init RX3 cX3_init 1 := ⟨k_1192, k_478, k_1193, rfl, rfl, by decide, by decide, by decide +kernel⟩
set_option maxRecDepth 100000 in
set_option maxHeartbeats 8000000 in
theorem kc_X3 (l : Launch) (hst : l.stackTraces = false) (w : Om) : KC l yX3_init cX3_init 1 2 40 10 2060 3 [.null, .null, .int 0] (ch_X3 w) w := by
  refine KC_of hst (by decide +kernel) RX3 rfl rfl (by decide) (fun W0 h Γ hw C hA hO hini hE => ?_)
  subst hw
  refine k_aload_n C dX3_init_0 0 rfl rfl ?_
  refine k_obj C dX3_init_1 k_1189 k_1150 k_1151 (by decide) (Nat.le_of_ble_eq_true rfl) (by decide) ?_
  refine k_aload_n C dX3_init_4 0 rfl rfl ?_
  refine k_new (ci := 0) (fs := [.null, .null, .int 0, .null, .null, .int 0]) C hA dX3_init_5 rfl inT_X0 tyX0 tyX0_ok k_1190 k_1191 k_9 (by decide) (by decide) (by decide) (fun q1 => ?_)
  refine k_dup C dX3_init_8 rfl ?_
  refine k_initN (h := q1) (st := [.ref q1, .ref h]) (c9 := 1) (s9 := 6) (Xp := [(h, .inr (3, [.null, .null, .int 0]))]) C hO dX3_init_9 mfi_X0_init (List.mem_of_getElem? (i := 10) rfl) ⟨by decide, by decide⟩ (Nat.le_of_ble_eq_true rfl) ⟨by decide, by decide⟩ (kc_X0 _ C.2.2.2.2 (gw Γ)) (fun u2 => ?_)
  refine k_putF (ci := 3) (j := 0) (i := 0) (X' := ([(h, .inr (3, [.ref q1, .null, .int 0]))] ++ ch_X0 (gw Γ) q1 u2)) C dX3_init_12 rfl inT_X3 (by decide) k_63 tyX3 tyX3_ok nmX3 rfl hini rfl rfl rfl rfl (Nat.le_of_ble_eq_true rfl) rfl ?_
  refine k_aload_n C dX3_init_15 0 rfl rfl ?_
  refine k_new (ci := 0) (fs := [.null, .null, .int 0, .null, .null, .int 0]) C hA dX3_init_16 rfl inT_X0 tyX0 tyX0_ok k_1190 k_1191 k_9 (by decide) (by decide) (by decide) (fun q3 => ?_)
  refine k_dup C dX3_init_19 rfl ?_
  refine k_initN (h := q3) (st := [.ref q3, .ref h]) (c9 := 6) (s9 := 1036) (Xp := ([(h, .inr (3, [.ref q1, .null, .int 0]))] ++ ch_X0 (gw Γ) q1 u2)) C hO dX3_init_20 mfi_X0_init (List.mem_of_getElem? (i := 10) rfl) ⟨by decide, by decide⟩ (Nat.le_of_ble_eq_true rfl) ⟨by decide, by decide⟩ (kc_X0 _ C.2.2.2.2 (gw Γ)) (fun u4 => ?_)
  refine k_putF (ci := 3) (j := 1) (i := 0) (X' := (([(h, .inr (3, [.ref q1, .ref q3, .int 0]))] ++ ch_X0 (gw Γ) q1 u2) ++ ch_X0 (gw Γ) q3 u4)) C dX3_init_23 rfl inT_X3 (by decide) k_68 tyX3 tyX3_ok nmX3 rfl hini rfl rfl rfl rfl (Nat.le_of_ble_eq_true rfl) rfl ?_
  exact hE (fun i => [q1, u2 0, u2 1, u2 2, u2 3, q3, u4 0, u4 1, u4 2, u4 3].getD i 0) _ _ 26 _ (by decide) (by decide) dX3_init_26
def ch_X9 (w : Om) (h : Nat) (u : Nat → Nat) : va_W := [(h, .inr (9, [.ref (u 0), .ref (u 2), .ref (u 5), .ref (u 37), .ref (u 47), .ref (u 50), .ref (u 59), .ref (u 70), .ref (u 82)])), (u 0, .inr (8, [.ref ((u 1)), .int 0, .int 0, .int (-1 : Int32), .int 0, .int 0, .int 0, .int 0])), (u 1, .inl (oc w 11, 800, .inl (fun _ => 0))), (u 2, .inr (7, [.ref ((u 3)), .ref ((u 4)), .int 0, .int 0])), (u 3, .inl (oc w 12, 192, .inl (fun _ => 0))), (u 4, .inl (oc w 12, 12, .inl (fun _ => 0))), (u 5, .inr (2, [.ref ((u 6)), .int 0, .int 0])), (u 6, .inl (oc w 14, 10, .inr (.inr (.inr (.inr (va_up (va_up (va_up (va_up (va_up (va_up (va_up (va_up (va_up (va_up (fun _ => none) ((0 : Int32)).toNatClampNeg (some ((u 7)))) ((1 : Int32)).toNatClampNeg (some ((u 10)))) ((2 : Int32)).toNatClampNeg (some ((u 13)))) ((3 : Int32)).toNatClampNeg (some ((u 16)))) ((4 : Int32)).toNatClampNeg (some ((u 19)))) ((5 : Int32)).toNatClampNeg (some ((u 22)))) ((6 : Int32)).toNatClampNeg (some ((u 25)))) ((7 : Int32)).toNatClampNeg (some ((u 28)))) ((8 : Int32)).toNatClampNeg (some ((u 31)))) ((9 : Int32)).toNatClampNeg (some ((u 34))))))))), (u 7, .inr (7, [.ref (((u 8))), .ref (((u 9))), .int 0, .int 0])), (u 8, .inl (oc w 12, 192, .inl (fun _ => 0))), (u 9, .inl (oc w 12, 12, .inl (fun _ => 0))), (u 10, .inr (7, [.ref (((u 11))), .ref (((u 12))), .int 0, .int 0])), (u 11, .inl (oc w 12, 192, .inl (fun _ => 0))), (u 12, .inl (oc w 12, 12, .inl (fun _ => 0))), (u 13, .inr (7, [.ref (((u 14))), .ref (((u 15))), .int 0, .int 0])), (u 14, .inl (oc w 12, 192, .inl (fun _ => 0))), (u 15, .inl (oc w 12, 12, .inl (fun _ => 0))), (u 16, .inr (7, [.ref (((u 17))), .ref (((u 18))), .int 0, .int 0])), (u 17, .inl (oc w 12, 192, .inl (fun _ => 0))), (u 18, .inl (oc w 12, 12, .inl (fun _ => 0))), (u 19, .inr (7, [.ref (((u 20))), .ref (((u 21))), .int 0, .int 0])), (u 20, .inl (oc w 12, 192, .inl (fun _ => 0))), (u 21, .inl (oc w 12, 12, .inl (fun _ => 0))), (u 22, .inr (7, [.ref (((u 23))), .ref (((u 24))), .int 0, .int 0])), (u 23, .inl (oc w 12, 192, .inl (fun _ => 0))), (u 24, .inl (oc w 12, 12, .inl (fun _ => 0))), (u 25, .inr (7, [.ref (((u 26))), .ref (((u 27))), .int 0, .int 0])), (u 26, .inl (oc w 12, 192, .inl (fun _ => 0))), (u 27, .inl (oc w 12, 12, .inl (fun _ => 0))), (u 28, .inr (7, [.ref (((u 29))), .ref (((u 30))), .int 0, .int 0])), (u 29, .inl (oc w 12, 192, .inl (fun _ => 0))), (u 30, .inl (oc w 12, 12, .inl (fun _ => 0))), (u 31, .inr (7, [.ref (((u 32))), .ref (((u 33))), .int 0, .int 0])), (u 32, .inl (oc w 12, 192, .inl (fun _ => 0))), (u 33, .inl (oc w 12, 12, .inl (fun _ => 0))), (u 34, .inr (7, [.ref (((u 35))), .ref (((u 36))), .int 0, .int 0])), (u 35, .inl (oc w 12, 192, .inl (fun _ => 0))), (u 36, .inl (oc w 12, 12, .inl (fun _ => 0))), (u 37, .inr (5, [.ref ((u 38)), .ref ((u 39)), .ref ((u 40)), .ref ((u 41)), .ref ((u 42)), .ref ((u 43)), .ref ((u 44)), .ref ((u 45)), .ref ((u 46)), .int 0])), (u 38, .inl (oc w 12, 12, .inl (fun _ => 0))), (u 39, .inl (oc w 12, 12, .inl (fun _ => 0))), (u 40, .inl (oc w 12, 12, .inl (fun _ => 0))), (u 41, .inl (oc w 12, 16, .inl (fun _ => 0))), (u 42, .inl (oc w 12, 16, .inl (fun _ => 0))), (u 43, .inl (oc w 12, 16, .inl (fun _ => 0))), (u 44, .inl (oc w 12, 16, .inl (fun _ => 0))), (u 45, .inl (oc w 12, 16, .inl (fun _ => 0))), (u 46, .inl (oc w 12, 16, .inl (fun _ => 0))), (u 47, .inr (1, [.ref ((u 48)), .ref ((u 49)), .int 0])), (u 48, .inl (oc w 12, 16, .inl (fun _ => 0))), (u 49, .inl (oc w 12, 4, .inl (fun _ => 0))), (u 50, .inr (4, [.ref ((u 51)), .ref ((u 52)), .ref ((u 53)), .ref ((u 54)), .ref ((u 55)), .ref ((u 56)), .ref ((u 57)), .ref ((u 58)), .int 0, .int 0, .int 0, .int 0])), (u 51, .inl (oc w 12, 192, .inl (fun _ => 0))), (u 52, .inl (oc w 13, 192, .inl (fun _ => 0))), (u 53, .inl (oc w 12, 12, .inl (fun _ => 0))), (u 54, .inl (oc w 12, 16, .inl (fun _ => 0))), (u 55, .inl (oc w 12, 12, .inl (fun _ => 0))), (u 56, .inl (oc w 12, 12, .inl (fun _ => 0))), (u 57, .inl (oc w 12, 16, .inl (fun _ => 0))), (u 58, .inl (oc w 12, 16, .inl (fun _ => 0))), (u 59, .inr (3, [.ref ((u 60)), .ref ((u 65)), .int 0])), (u 60, .inr (0, [.ref (((u 61))), .ref (((u 62))), .int (1 : Int32), .ref (((u 63))), .ref (((u 64))), .int 0])), (u 61, .inl (oc w 12, 256, .inl (fun _ => 0))), (u 62, .inl (oc w 12, 256, .inl (fun _ => 0))), (u 63, .inl (oc w 12, 256, .inl (fun _ => 0))), (u 64, .inl (oc w 12, 256, .inl (fun _ => 0))), (u 65, .inr (0, [.ref (((u 66))), .ref (((u 67))), .int (1 : Int32), .ref (((u 68))), .ref (((u 69))), .int 0])), (u 66, .inl (oc w 12, 256, .inl (fun _ => 0))), (u 67, .inl (oc w 12, 256, .inl (fun _ => 0))), (u 68, .inl (oc w 12, 256, .inl (fun _ => 0))), (u 69, .inl (oc w 12, 256, .inl (fun _ => 0))), (u 70, .inr (6, [.int 0, .int 0, .int 0, .ref ((u 71)), .ref ((u 72)), .ref ((u 73)), .ref ((u 74)), .ref ((u 75)), .ref ((u 76)), .ref ((u 77)), .ref ((u 78)), .ref ((u 79)), .ref ((u 80)), .ref ((u 81)), .int (2 : Int32), .int (20 : Int32), .int 0, .int 0])), (u 71, .inl (oc w 12, 4, .inl (fun _ => 0))), (u 72, .inl (oc w 12, 12, .inl (fun _ => 0))), (u 73, .inl (oc w 12, 12, .inl (fun _ => 0))), (u 74, .inl (oc w 12, 12, .inl (fun _ => 0))), (u 75, .inl (oc w 12, 12, .inl (fun _ => 0))), (u 76, .inl (oc w 12, 12, .inl (fun _ => 0))), (u 77, .inl (oc w 12, 16, .inl (fun _ => 0))), (u 78, .inl (oc w 12, 16, .inl (fun _ => 0))), (u 79, .inl (oc w 12, 16, .inl (fun _ => 0))), (u 80, .inl (oc w 12, 16, .inl (fun _ => 0))), (u 81, .inl (oc w 12, 16, .inl (fun _ => 0))), (u 82, .inr (6, [.int 0, .int 0, .int 0, .ref ((u 83)), .ref ((u 84)), .ref ((u 85)), .ref ((u 86)), .ref ((u 87)), .ref ((u 88)), .ref ((u 89)), .ref ((u 90)), .ref ((u 91)), .ref ((u 92)), .ref ((u 93)), .int (2 : Int32), .int (20 : Int32), .int 0, .int 0])), (u 83, .inl (oc w 12, 4, .inl (fun _ => 0))), (u 84, .inl (oc w 12, 12, .inl (fun _ => 0))), (u 85, .inl (oc w 12, 12, .inl (fun _ => 0))), (u 86, .inl (oc w 12, 12, .inl (fun _ => 0))), (u 87, .inl (oc w 12, 12, .inl (fun _ => 0))), (u 88, .inl (oc w 12, 12, .inl (fun _ => 0))), (u 89, .inl (oc w 12, 16, .inl (fun _ => 0))), (u 90, .inl (oc w 12, 16, .inl (fun _ => 0))), (u 91, .inl (oc w 12, 16, .inl (fun _ => 0))), (u 92, .inl (oc w 12, 16, .inl (fun _ => 0))), (u 93, .inl (oc w 12, 16, .inl (fun _ => 0)))]
theorem mfi_X9_init : MFi yX9_init RX9 cX9_init 1 := ⟨k_1211, k_87, k_1212, rfl, rfl, by decide, by decide, by decide +kernel⟩
set_option maxRecDepth 100000 in
set_option maxHeartbeats 8000000 in
theorem kc_X9 (l : Launch) (hst : l.stackTraces = false) (w : Om) : KC l yX9_init cX9_init 1 3 61 94 6141 9 [.null, .null, .null, .null, .null, .null, .null, .null, .null] (ch_X9 w) w := by
  refine KC_of hst (by decide +kernel) RX9 rfl rfl (by decide) (fun W0 h Γ hw C hA hO hini hE => ?_)
  subst hw
  refine k_aload_n C dX9_init_0 0 rfl rfl ?_
  refine k_obj C dX9_init_1 k_1194 k_1150 k_1151 (by decide) (Nat.le_of_ble_eq_true rfl) (by decide) ?_
  refine k_aload_n C dX9_init_4 0 rfl rfl ?_
  refine k_new (ci := 8) (fs := [.null, .int 0, .int 0, .int 0, .int 0, .int 0, .int 0, .int 0]) C hA dX9_init_5 rfl inT_X8 tyX8 tyX8_ok k_1195 k_1196 k_241 (by decide) (by decide) (by decide) (fun q1 => ?_)
  refine k_dup C dX9_init_8 rfl ?_
  refine k_initN (h := q1) (st := [.ref q1, .ref h]) (c9 := 1) (s9 := 8) (Xp := [(h, .inr (9, [.null, .null, .null, .null, .null, .null, .null, .null, .null]))]) C hO dX9_init_9 mfi_X8_init (List.mem_of_getElem? (i := 3) rfl) ⟨by decide, by decide⟩ (Nat.le_of_ble_eq_true rfl) ⟨by decide, by decide⟩ (kc_X8 _ C.2.2.2.2 (gw Γ)) (fun u2 => ?_)
  refine k_putF (ci := 9) (j := 0) (i := 0) (X' := ([(h, .inr (9, [.ref q1, .null, .null, .null, .null, .null, .null, .null, .null]))] ++ ch_X8 (gw Γ) q1 u2)) C dX9_init_12 rfl inT_X9 (by decide) k_322 tyX9 tyX9_ok nmX9 rfl hini rfl rfl rfl rfl (Nat.le_of_ble_eq_true rfl) rfl ?_
  refine k_aload_n C dX9_init_15 0 rfl rfl ?_
  refine k_new (ci := 7) (fs := [.null, .null, .int 0, .int 0]) C hA dX9_init_16 rfl inT_X7 tyX7 tyX7_ok k_1197 k_1186 k_57 (by decide) (by decide) (by decide) (fun q3 => ?_)
  refine k_dup C dX9_init_19 rfl ?_
  refine k_initN (h := q3) (st := [.ref q3, .ref h]) (c9 := 3) (s9 := 812) (Xp := ([(h, .inr (9, [.ref q1, .null, .null, .null, .null, .null, .null, .null, .null]))] ++ ch_X8 (gw Γ) q1 u2)) C hO dX9_init_20 mfi_X7_init (List.mem_of_getElem? (i := 4) rfl) ⟨by decide, by decide⟩ (Nat.le_of_ble_eq_true rfl) ⟨by decide, by decide⟩ (kc_X7 _ C.2.2.2.2 (gw Γ)) (fun u4 => ?_)
  refine k_putF (ci := 9) (j := 1) (i := 0) (X' := (([(h, .inr (9, [.ref q1, .ref q3, .null, .null, .null, .null, .null, .null, .null]))] ++ ch_X8 (gw Γ) q1 u2) ++ ch_X7 (gw Γ) q3 u4)) C dX9_init_23 rfl inT_X9 (by decide) k_334 tyX9 tyX9_ok nmX9 rfl hini rfl rfl rfl rfl (Nat.le_of_ble_eq_true rfl) rfl ?_
  refine k_aload_n C dX9_init_26 0 rfl rfl ?_
  refine k_new (ci := 2) (fs := [.null, .int 0, .int 0]) C hA dX9_init_27 rfl inT_X2 tyX2 tyX2_ok k_1198 k_1199 k_343 (by decide) (by decide) (by decide) (fun q5 => ?_)
  refine k_dup C dX9_init_30 rfl ?_
  refine k_init (h := q5) (st := [.ref q5, .ref h]) (c9 := 6) (s9 := 1019) (Xp := (([(h, .inr (9, [.ref q1, .ref q3, .null, .null, .null, .null, .null, .null, .null]))] ++ ch_X8 (gw Γ) q1 u2) ++ ch_X7 (gw Γ) q3 u4)) C hO dX9_init_31 mfi_X2_init k_1200 ⟨by decide, by decide⟩ (Nat.le_of_ble_eq_true rfl) ⟨by decide, by decide⟩ (kc_X2 _ C.2.2.2.2 (gw Γ)) (fun u6 => ?_)
  refine k_putF (ci := 9) (j := 2) (i := 0) (X' := ((([(h, .inr (9, [.ref q1, .ref q3, .ref q5, .null, .null, .null, .null, .null, .null]))] ++ ch_X8 (gw Γ) q1 u2) ++ ch_X7 (gw Γ) q3 u4) ++ ch_X2 (gw Γ) q5 u6)) C dX9_init_34 rfl inT_X9 (by decide) k_339 tyX9 tyX9_ok nmX9 rfl hini rfl rfl rfl rfl (Nat.le_of_ble_eq_true rfl) rfl ?_
  refine k_aload_n C dX9_init_37 0 rfl rfl ?_
  refine k_new (ci := 5) (fs := [.null, .null, .null, .null, .null, .null, .null, .null, .null, .int 0]) C hA dX9_init_38 rfl inT_X5 tyX5 tyX5_ok k_1201 k_1202 k_154 (by decide) (by decide) (by decide) (fun q7 => ?_)
  refine k_dup C dX9_init_41 rfl ?_
  refine k_initN (h := q7) (st := [.ref q7, .ref h]) (c9 := 38) (s9 := 3119) (Xp := ((([(h, .inr (9, [.ref q1, .ref q3, .ref q5, .null, .null, .null, .null, .null, .null]))] ++ ch_X8 (gw Γ) q1 u2) ++ ch_X7 (gw Γ) q3 u4) ++ ch_X2 (gw Γ) q5 u6)) C hO dX9_init_42 mfi_X5_init (List.mem_of_getElem? (i := 6) rfl) ⟨by decide, by decide⟩ (Nat.le_of_ble_eq_true rfl) ⟨by decide, by decide⟩ (kc_X5 _ C.2.2.2.2 (gw Γ)) (fun u8 => ?_)
  refine k_putF (ci := 9) (j := 3) (i := 0) (X' := (((([(h, .inr (9, [.ref q1, .ref q3, .ref q5, .ref q7, .null, .null, .null, .null, .null]))] ++ ch_X8 (gw Γ) q1 u2) ++ ch_X7 (gw Γ) q3 u4) ++ ch_X2 (gw Γ) q5 u6) ++ ch_X5 (gw Γ) q7 u8)) C dX9_init_45 rfl inT_X9 (by decide) k_434 tyX9 tyX9_ok nmX9 rfl hini rfl rfl rfl rfl (Nat.le_of_ble_eq_true rfl) rfl ?_
  refine k_aload_n C dX9_init_48 0 rfl rfl ?_
  refine k_new (ci := 1) (fs := [.null, .null, .int 0]) C hA dX9_init_49 rfl inT_X1 tyX1 tyX1_ok k_1203 k_1204 k_26 (by decide) (by decide) (by decide) (fun q9 => ?_)
  refine k_dup C dX9_init_52 rfl ?_
  refine k_initN (h := q9) (st := [.ref q9, .ref h]) (c9 := 48) (s9 := 3254) (Xp := (((([(h, .inr (9, [.ref q1, .ref q3, .ref q5, .ref q7, .null, .null, .null, .null, .null]))] ++ ch_X8 (gw Γ) q1 u2) ++ ch_X7 (gw Γ) q3 u4) ++ ch_X2 (gw Γ) q5 u6) ++ ch_X5 (gw Γ) q7 u8)) C hO dX9_init_53 mfi_X1_init (List.mem_of_getElem? (i := 7) rfl) ⟨by decide, by decide⟩ (Nat.le_of_ble_eq_true rfl) ⟨by decide, by decide⟩ (kc_X1 _ C.2.2.2.2 (gw Γ)) (fun u10 => ?_)
  refine k_putF (ci := 9) (j := 4) (i := 0) (X' := ((((([(h, .inr (9, [.ref q1, .ref q3, .ref q5, .ref q7, .ref q9, .null, .null, .null, .null]))] ++ ch_X8 (gw Γ) q1 u2) ++ ch_X7 (gw Γ) q3 u4) ++ ch_X2 (gw Γ) q5 u6) ++ ch_X5 (gw Γ) q7 u8) ++ ch_X1 (gw Γ) q9 u10)) C dX9_init_56 rfl inT_X9 (by decide) k_455 tyX9 tyX9_ok nmX9 rfl hini rfl rfl rfl rfl (Nat.le_of_ble_eq_true rfl) rfl ?_
  refine k_aload_n C dX9_init_59 0 rfl rfl ?_
  refine k_new (ci := 4) (fs := [.null, .null, .null, .null, .null, .null, .null, .null, .int 0, .int 0, .int 0, .int 0]) C hA dX9_init_60 rfl inT_X4 tyX4 tyX4_ok k_1205 k_1206 k_98 (by decide) (by decide) (by decide) (fun q11 => ?_)
  refine k_dup C dX9_init_63 rfl ?_
  refine k_initN (h := q11) (st := [.ref q11, .ref h]) (c9 := 51) (s9 := 3286) (Xp := ((((([(h, .inr (9, [.ref q1, .ref q3, .ref q5, .ref q7, .ref q9, .null, .null, .null, .null]))] ++ ch_X8 (gw Γ) q1 u2) ++ ch_X7 (gw Γ) q3 u4) ++ ch_X2 (gw Γ) q5 u6) ++ ch_X5 (gw Γ) q7 u8) ++ ch_X1 (gw Γ) q9 u10)) C hO dX9_init_64 mfi_X4_init (List.mem_of_getElem? (i := 8) rfl) ⟨by decide, by decide⟩ (Nat.le_of_ble_eq_true rfl) ⟨by decide, by decide⟩ (kc_X4 _ C.2.2.2.2 (gw Γ)) (fun u12 => ?_)
  refine k_putF (ci := 9) (j := 5) (i := 0) (X' := (((((([(h, .inr (9, [.ref q1, .ref q3, .ref q5, .ref q7, .ref q9, .ref q11, .null, .null, .null]))] ++ ch_X8 (gw Γ) q1 u2) ++ ch_X7 (gw Γ) q3 u4) ++ ch_X2 (gw Γ) q5 u6) ++ ch_X5 (gw Γ) q7 u8) ++ ch_X1 (gw Γ) q9 u10) ++ ch_X4 (gw Γ) q11 u12)) C dX9_init_67 rfl inT_X9 (by decide) k_422 tyX9 tyX9_ok nmX9 rfl hini rfl rfl rfl rfl (Nat.le_of_ble_eq_true rfl) rfl ?_
  refine k_aload_n C dX9_init_70 0 rfl rfl ?_
  refine k_new (ci := 3) (fs := [.null, .null, .int 0]) C hA dX9_init_71 rfl inT_X3 tyX3 tyX3_ok k_1207 k_1208 k_478 (by decide) (by decide) (by decide) (fun q13 => ?_)
  refine k_dup C dX9_init_74 rfl ?_
  refine k_initN (h := q13) (st := [.ref q13, .ref h]) (c9 := 60) (s9 := 3757) (Xp := (((((([(h, .inr (9, [.ref q1, .ref q3, .ref q5, .ref q7, .ref q9, .ref q11, .null, .null, .null]))] ++ ch_X8 (gw Γ) q1 u2) ++ ch_X7 (gw Γ) q3 u4) ++ ch_X2 (gw Γ) q5 u6) ++ ch_X5 (gw Γ) q7 u8) ++ ch_X1 (gw Γ) q9 u10) ++ ch_X4 (gw Γ) q11 u12)) C hO dX9_init_75 mfi_X3_init (List.mem_of_getElem? (i := 9) rfl) ⟨by decide, by decide⟩ (Nat.le_of_ble_eq_true rfl) ⟨by decide, by decide⟩ (kc_X3 _ C.2.2.2.2 (gw Γ)) (fun u14 => ?_)
  refine k_putF (ci := 9) (j := 6) (i := 0) (X' := ((((((([(h, .inr (9, [.ref q1, .ref q3, .ref q5, .ref q7, .ref q9, .ref q11, .ref q13, .null, .null]))] ++ ch_X8 (gw Γ) q1 u2) ++ ch_X7 (gw Γ) q3 u4) ++ ch_X2 (gw Γ) q5 u6) ++ ch_X5 (gw Γ) q7 u8) ++ ch_X1 (gw Γ) q9 u10) ++ ch_X4 (gw Γ) q11 u12) ++ ch_X3 (gw Γ) q13 u14)) C dX9_init_78 rfl inT_X9 (by decide) k_474 tyX9 tyX9_ok nmX9 rfl hini rfl rfl rfl rfl (Nat.le_of_ble_eq_true rfl) rfl ?_
  refine k_aload_n C dX9_init_81 0 rfl rfl ?_
  refine k_new (ci := 6) (fs := [.int 0, .int 0, .int 0, .null, .null, .null, .null, .null, .null, .null, .null, .null, .null, .null, .int 0, .int 0, .int 0, .int 0]) C hA dX9_init_82 rfl inT_X6 tyX6 tyX6_ok k_1209 k_1210 k_126 (by decide) (by decide) (by decide) (fun q15 => ?_)
  refine k_dup C dX9_init_85 rfl ?_
  refine k_initN (h := q15) (st := [.ref q15, .ref h]) (c9 := 71) (s9 := 5835) (Xp := ((((((([(h, .inr (9, [.ref q1, .ref q3, .ref q5, .ref q7, .ref q9, .ref q11, .ref q13, .null, .null]))] ++ ch_X8 (gw Γ) q1 u2) ++ ch_X7 (gw Γ) q3 u4) ++ ch_X2 (gw Γ) q5 u6) ++ ch_X5 (gw Γ) q7 u8) ++ ch_X1 (gw Γ) q9 u10) ++ ch_X4 (gw Γ) q11 u12) ++ ch_X3 (gw Γ) q13 u14)) C hO dX9_init_86 mfi_X6_init (List.mem_of_getElem? (i := 11) rfl) ⟨by decide, by decide⟩ (Nat.le_of_ble_eq_true rfl) ⟨by decide, by decide⟩ (kc_X6 _ C.2.2.2.2 (gw Γ)) (fun u16 => ?_)
  refine k_put (ci := 9) (j := 7) (i := 0) (X' := (((((((([(h, .inr (9, [.ref q1, .ref q3, .ref q5, .ref q7, .ref q9, .ref q11, .ref q13, .ref q15, .null]))] ++ ch_X8 (gw Γ) q1 u2) ++ ch_X7 (gw Γ) q3 u4) ++ ch_X2 (gw Γ) q5 u6) ++ ch_X5 (gw Γ) q7 u8) ++ ch_X1 (gw Γ) q9 u10) ++ ch_X4 (gw Γ) q11 u12) ++ ch_X3 (gw Γ) q13 u14) ++ ch_X6 (gw Γ) q15 u16)) C dX9_init_89 rfl inT_X9 (by decide) k_333 tyX9 tyX9_ok nmX9 rfl rfl rfl rfl (Nat.le_of_ble_eq_true rfl) rfl ?_
  refine k_aload_n C dX9_init_92 0 rfl rfl ?_
  refine k_new (ci := 6) (fs := [.int 0, .int 0, .int 0, .null, .null, .null, .null, .null, .null, .null, .null, .null, .null, .null, .int 0, .int 0, .int 0, .int 0]) C hA dX9_init_93 rfl inT_X6 tyX6 tyX6_ok k_1209 k_1210 k_126 (by decide) (by decide) (by decide) (fun q17 => ?_)
  refine k_dup C dX9_init_96 rfl ?_
  refine k_initN (h := q17) (st := [.ref q17, .ref h]) (c9 := 83) (s9 := 5997) (Xp := (((((((([(h, .inr (9, [.ref q1, .ref q3, .ref q5, .ref q7, .ref q9, .ref q11, .ref q13, .ref q15, .null]))] ++ ch_X8 (gw Γ) q1 u2) ++ ch_X7 (gw Γ) q3 u4) ++ ch_X2 (gw Γ) q5 u6) ++ ch_X5 (gw Γ) q7 u8) ++ ch_X1 (gw Γ) q9 u10) ++ ch_X4 (gw Γ) q11 u12) ++ ch_X3 (gw Γ) q13 u14) ++ ch_X6 (gw Γ) q15 u16)) C hO dX9_init_97 mfi_X6_init (List.mem_of_getElem? (i := 11) rfl) ⟨by decide, by decide⟩ (Nat.le_of_ble_eq_true rfl) ⟨by decide, by decide⟩ (kc_X6 _ C.2.2.2.2 (gw Γ)) (fun u18 => ?_)
  refine k_put (ci := 9) (j := 8) (i := 0) (X' := ((((((((([(h, .inr (9, [.ref q1, .ref q3, .ref q5, .ref q7, .ref q9, .ref q11, .ref q13, .ref q15, .ref q17]))] ++ ch_X8 (gw Γ) q1 u2) ++ ch_X7 (gw Γ) q3 u4) ++ ch_X2 (gw Γ) q5 u6) ++ ch_X5 (gw Γ) q7 u8) ++ ch_X1 (gw Γ) q9 u10) ++ ch_X4 (gw Γ) q11 u12) ++ ch_X3 (gw Γ) q13 u14) ++ ch_X6 (gw Γ) q15 u16) ++ ch_X6 (gw Γ) q17 u18)) C dX9_init_100 rfl inT_X9 (by decide) k_328 tyX9 tyX9_ok nmX9 rfl rfl rfl rfl (Nat.le_of_ble_eq_true rfl) rfl ?_
  exact hE (fun i => [q1, u2 0, q3, u4 0, u4 1, q5, u6 0, u6 1, u6 2, u6 3, u6 4, u6 5, u6 6, u6 7, u6 8, u6 9, u6 10, u6 11, u6 12, u6 13, u6 14, u6 15, u6 16, u6 17, u6 18, u6 19, u6 20, u6 21, u6 22, u6 23, u6 24, u6 25, u6 26, u6 27, u6 28, u6 29, u6 30, q7, u8 0, u8 1, u8 2, u8 3, u8 4, u8 5, u8 6, u8 7, u8 8, q9, u10 0, u10 1, q11, u12 0, u12 1, u12 2, u12 3, u12 4, u12 5, u12 6, u12 7, q13, u14 0, u14 1, u14 2, u14 3, u14 4, u14 5, u14 6, u14 7, u14 8, u14 9, q15, u16 0, u16 1, u16 2, u16 3, u16 4, u16 5, u16 6, u16 7, u16 8, u16 9, u16 10, q17, u18 0, u18 1, u18 2, u18 3, u18 4, u18 5, u18 6, u18 7, u18 8, u18 9, u18 10].getD i 0) _ _ 103 _ (by decide) (by decide) dX9_init_103
def ch_X10 (w : Om) (h : Nat) (u : Nat → Nat) : va_W := [(h, .inr (10, [.int 0, .ref (u 0), .ref (u 1), .ref (u 2), .ref (u 3), .int 0, .ref (u 4), .int 0, .int 0, .int 0, .int (-1 : Int32), .int 0, .ref (u 5), .ref (u 6), .ref (u 7), .int 0, .int 0, .ref (u 8), .ref (u 9), .int 0, .ref (u 10), .ref (u 11), .int 0])), (u 0, .inl (oc w 12, 151, .inl (upd (upd (fun _ => 0) ((3 : Int32)).toNatClampNeg (2 : Int32)) ((6 : Int32)).toNatClampNeg (20 : Int32)))), (u 1, .inl (oc w 12, 151, .inl (fun _ => 0))), (u 2, .inl (oc w 12, 218, .inl (fun _ => 0))), (u 3, .inl (oc w 12, 2180, .inl (fun _ => 0))), (u 4, .inl (oc w 12, 800, .inl (fun _ => 0))), (u 5, .inl (oc w 12, 12, .inl (fun _ => 0))), (u 6, .inl (oc w 12, 28, .inl (fun _ => 0))), (u 7, .inl (oc w 12, 28, .inl (fun _ => 0))), (u 8, .inl (oc w 12, 16, .inl (fun _ => 0))), (u 9, .inl (oc w 12, 16, .inl (fun _ => 0))), (u 10, .inl (oc w 12, 16, .inl (fun _ => 0))), (u 11, .inl (oc w 12, 4, .inl (fun _ => 0)))]
theorem mfi_X10_init : MFi yX10_init RX10 cX10_init 1 := ⟨k_1214, k_509, k_1215, rfl, rfl, by decide, by decide, by decide +kernel⟩
set_option maxRecDepth 100000 in
set_option maxHeartbeats 8000000 in
theorem kc_X10 (l : Launch) (hst : l.stackTraces = false) (w : Om) : KC l yX10_init cX10_init 1 1 20 12 3620 10 [.int 0, .null, .null, .null, .null, .int 0, .null, .int 0, .int 0, .int 0, .int 0, .int 0, .null, .null, .null, .int 0, .int 0, .null, .null, .int 0, .null, .null, .int 0] (ch_X10 w) w := by
  refine KC_of hst (by decide +kernel) RX10 rfl rfl (by decide) (fun W0 h Γ hw C hA hO hini hE => ?_)
  subst hw
  refine k_aload_n C dX10_init_0 0 rfl rfl ?_
  refine k_obj C dX10_init_1 k_1213 k_1150 k_1151 (by decide) (Nat.le_of_ble_eq_true rfl) (by decide) ?_
  refine k_aload_n C dX10_init_4 0 rfl rfl ?_
  refine k_sipush (v := (151 : Int32)) C dX10_init_5 (by decide) ?_
  refine k_newa_I (N := 151) C hA dX10_init_8 k_1153 (by decide) (by decide) (by decide) (by decide) (by decide) (fun q1 => ?_)
  refine k_putF (ci := 10) (j := 1) (i := 0) (X' := [(h, .inr (10, [.int 0, .ref q1, .null, .null, .null, .int 0, .null, .int 0, .int 0, .int 0, .int 0, .int 0, .null, .null, .null, .int 0, .int 0, .null, .null, .int 0, .null, .null, .int 0])), (q1, .inl (oc (gw Γ) 12, 151, .inl (fun _ => 0)))]) C dX10_init_10 rfl inT_X10 (by decide) k_506 tyX10 tyX10_ok nmX10 rfl hini rfl rfl rfl rfl (Nat.le_of_ble_eq_true rfl) rfl ?_
  refine k_aload_n C dX10_init_13 0 rfl rfl ?_
  refine k_sipush (v := (151 : Int32)) C dX10_init_14 (by decide) ?_
  refine k_newa_I (N := 151) C hA dX10_init_17 k_1153 (by decide) (by decide) (by decide) (by decide) (by decide) (fun q2 => ?_)
  refine k_putF (ci := 10) (j := 2) (i := 0) (X' := [(h, .inr (10, [.int 0, .ref q1, .ref q2, .null, .null, .int 0, .null, .int 0, .int 0, .int 0, .int 0, .int 0, .null, .null, .null, .int 0, .int 0, .null, .null, .int 0, .null, .null, .int 0])), (q1, .inl (oc (gw Γ) 12, 151, .inl (fun _ => 0))), (q2, .inl (oc (gw Γ) 12, 151, .inl (fun _ => 0)))]) C dX10_init_19 rfl inT_X10 (by decide) k_544 tyX10 tyX10_ok nmX10 rfl hini rfl rfl rfl rfl (Nat.le_of_ble_eq_true rfl) rfl ?_
  refine k_aload_n C dX10_init_22 0 rfl rfl ?_
  refine k_sipush (v := (218 : Int32)) C dX10_init_23 (by decide) ?_
  refine k_newa_I (N := 218) C hA dX10_init_26 k_1153 (by decide) (by decide) (by decide) (by decide) (by decide) (fun q3 => ?_)
  refine k_putF (ci := 10) (j := 3) (i := 0) (X' := [(h, .inr (10, [.int 0, .ref q1, .ref q2, .ref q3, .null, .int 0, .null, .int 0, .int 0, .int 0, .int 0, .int 0, .null, .null, .null, .int 0, .int 0, .null, .null, .int 0, .null, .null, .int 0])), (q1, .inl (oc (gw Γ) 12, 151, .inl (fun _ => 0))), (q2, .inl (oc (gw Γ) 12, 151, .inl (fun _ => 0))), (q3, .inl (oc (gw Γ) 12, 218, .inl (fun _ => 0)))]) C dX10_init_28 rfl inT_X10 (by decide) k_588 tyX10 tyX10_ok nmX10 rfl hini rfl rfl rfl rfl (Nat.le_of_ble_eq_true rfl) rfl ?_
  refine k_aload_n C dX10_init_31 0 rfl rfl ?_
  refine k_sipush (v := (2180 : Int32)) C dX10_init_32 (by decide) ?_
  refine k_newa_I (N := 2180) C hA dX10_init_35 k_1153 (by decide) (by decide) (by decide) (by decide) (by decide) (fun q4 => ?_)
  refine k_putF (ci := 10) (j := 4) (i := 0) (X' := [(h, .inr (10, [.int 0, .ref q1, .ref q2, .ref q3, .ref q4, .int 0, .null, .int 0, .int 0, .int 0, .int 0, .int 0, .null, .null, .null, .int 0, .int 0, .null, .null, .int 0, .null, .null, .int 0])), (q1, .inl (oc (gw Γ) 12, 151, .inl (fun _ => 0))), (q2, .inl (oc (gw Γ) 12, 151, .inl (fun _ => 0))), (q3, .inl (oc (gw Γ) 12, 218, .inl (fun _ => 0))), (q4, .inl (oc (gw Γ) 12, 2180, .inl (fun _ => 0)))]) C dX10_init_37 rfl inT_X10 (by decide) k_590 tyX10 tyX10_ok nmX10 rfl hini rfl rfl rfl rfl (Nat.le_of_ble_eq_true rfl) rfl ?_
  refine k_aload_n C dX10_init_40 0 rfl rfl ?_
  refine k_sipush (v := (800 : Int32)) C dX10_init_41 (by decide) ?_
  refine k_newa_I (N := 800) C hA dX10_init_44 k_1153 (by decide) (by decide) (by decide) (by decide) (by decide) (fun q5 => ?_)
  refine k_putF (ci := 10) (j := 6) (i := 0) (X' := [(h, .inr (10, [.int 0, .ref q1, .ref q2, .ref q3, .ref q4, .int 0, .ref q5, .int 0, .int 0, .int 0, .int 0, .int 0, .null, .null, .null, .int 0, .int 0, .null, .null, .int 0, .null, .null, .int 0])), (q1, .inl (oc (gw Γ) 12, 151, .inl (fun _ => 0))), (q2, .inl (oc (gw Γ) 12, 151, .inl (fun _ => 0))), (q3, .inl (oc (gw Γ) 12, 218, .inl (fun _ => 0))), (q4, .inl (oc (gw Γ) 12, 2180, .inl (fun _ => 0))), (q5, .inl (oc (gw Γ) 12, 800, .inl (fun _ => 0)))]) C dX10_init_46 rfl inT_X10 (by decide) k_511 tyX10 tyX10_ok nmX10 rfl hini rfl rfl rfl rfl (Nat.le_of_ble_eq_true rfl) rfl ?_
  refine k_aload_n C dX10_init_49 0 rfl rfl ?_
  refine k_iconst (v := (-1 : Int32)) C dX10_init_50 (by decide) ?_
  refine k_put (ci := 10) (j := 10) (i := 0) (X' := [(h, .inr (10, [.int 0, .ref q1, .ref q2, .ref q3, .ref q4, .int 0, .ref q5, .int 0, .int 0, .int 0, .int (-1 : Int32), .int 0, .null, .null, .null, .int 0, .int 0, .null, .null, .int 0, .null, .null, .int 0])), (q1, .inl (oc (gw Γ) 12, 151, .inl (fun _ => 0))), (q2, .inl (oc (gw Γ) 12, 151, .inl (fun _ => 0))), (q3, .inl (oc (gw Γ) 12, 218, .inl (fun _ => 0))), (q4, .inl (oc (gw Γ) 12, 2180, .inl (fun _ => 0))), (q5, .inl (oc (gw Γ) 12, 800, .inl (fun _ => 0)))]) C dX10_init_51 rfl inT_X10 (by decide) k_524 tyX10 tyX10_ok nmX10 rfl rfl rfl rfl (Nat.le_of_ble_eq_true rfl) rfl ?_
  refine k_aload_n C dX10_init_54 0 rfl rfl ?_
  refine k_bipush (v := (12 : Int32)) C dX10_init_55 (by decide) ?_
  refine k_newa_I (N := 12) C hA dX10_init_57 k_1153 (by decide) (by decide) (by decide) (by decide) (by decide) (fun q6 => ?_)
  refine k_putF (ci := 10) (j := 12) (i := 0) (X' := [(h, .inr (10, [.int 0, .ref q1, .ref q2, .ref q3, .ref q4, .int 0, .ref q5, .int 0, .int 0, .int 0, .int (-1 : Int32), .int 0, .ref q6, .null, .null, .int 0, .int 0, .null, .null, .int 0, .null, .null, .int 0])), (q1, .inl (oc (gw Γ) 12, 151, .inl (fun _ => 0))), (q2, .inl (oc (gw Γ) 12, 151, .inl (fun _ => 0))), (q3, .inl (oc (gw Γ) 12, 218, .inl (fun _ => 0))), (q4, .inl (oc (gw Γ) 12, 2180, .inl (fun _ => 0))), (q5, .inl (oc (gw Γ) 12, 800, .inl (fun _ => 0))), (q6, .inl (oc (gw Γ) 12, 12, .inl (fun _ => 0)))]) C dX10_init_59 rfl inT_X10 (by decide) k_668 tyX10 tyX10_ok nmX10 rfl hini rfl rfl rfl rfl (Nat.le_of_ble_eq_true rfl) rfl ?_
  refine k_aload_n C dX10_init_62 0 rfl rfl ?_
  refine k_bipush (v := (28 : Int32)) C dX10_init_63 (by decide) ?_
  refine k_newa_I (N := 28) C hA dX10_init_65 k_1153 (by decide) (by decide) (by decide) (by decide) (by decide) (fun q7 => ?_)
  refine k_putF (ci := 10) (j := 13) (i := 0) (X' := [(h, .inr (10, [.int 0, .ref q1, .ref q2, .ref q3, .ref q4, .int 0, .ref q5, .int 0, .int 0, .int 0, .int (-1 : Int32), .int 0, .ref q6, .ref q7, .null, .int 0, .int 0, .null, .null, .int 0, .null, .null, .int 0])), (q1, .inl (oc (gw Γ) 12, 151, .inl (fun _ => 0))), (q2, .inl (oc (gw Γ) 12, 151, .inl (fun _ => 0))), (q3, .inl (oc (gw Γ) 12, 218, .inl (fun _ => 0))), (q4, .inl (oc (gw Γ) 12, 2180, .inl (fun _ => 0))), (q5, .inl (oc (gw Γ) 12, 800, .inl (fun _ => 0))), (q6, .inl (oc (gw Γ) 12, 12, .inl (fun _ => 0))), (q7, .inl (oc (gw Γ) 12, 28, .inl (fun _ => 0)))]) C dX10_init_67 rfl inT_X10 (by decide) k_669 tyX10 tyX10_ok nmX10 rfl hini rfl rfl rfl rfl (Nat.le_of_ble_eq_true rfl) rfl ?_
  refine k_aload_n C dX10_init_70 0 rfl rfl ?_
  refine k_bipush (v := (28 : Int32)) C dX10_init_71 (by decide) ?_
  refine k_newa_I (N := 28) C hA dX10_init_73 k_1153 (by decide) (by decide) (by decide) (by decide) (by decide) (fun q8 => ?_)
  refine k_putF (ci := 10) (j := 14) (i := 0) (X' := [(h, .inr (10, [.int 0, .ref q1, .ref q2, .ref q3, .ref q4, .int 0, .ref q5, .int 0, .int 0, .int 0, .int (-1 : Int32), .int 0, .ref q6, .ref q7, .ref q8, .int 0, .int 0, .null, .null, .int 0, .null, .null, .int 0])), (q1, .inl (oc (gw Γ) 12, 151, .inl (fun _ => 0))), (q2, .inl (oc (gw Γ) 12, 151, .inl (fun _ => 0))), (q3, .inl (oc (gw Γ) 12, 218, .inl (fun _ => 0))), (q4, .inl (oc (gw Γ) 12, 2180, .inl (fun _ => 0))), (q5, .inl (oc (gw Γ) 12, 800, .inl (fun _ => 0))), (q6, .inl (oc (gw Γ) 12, 12, .inl (fun _ => 0))), (q7, .inl (oc (gw Γ) 12, 28, .inl (fun _ => 0))), (q8, .inl (oc (gw Γ) 12, 28, .inl (fun _ => 0)))]) C dX10_init_75 rfl inT_X10 (by decide) k_670 tyX10 tyX10_ok nmX10 rfl hini rfl rfl rfl rfl (Nat.le_of_ble_eq_true rfl) rfl ?_
  refine k_aload_n C dX10_init_78 0 rfl rfl ?_
  refine k_bipush (v := (16 : Int32)) C dX10_init_79 (by decide) ?_
  refine k_newa_I (N := 16) C hA dX10_init_81 k_1153 (by decide) (by decide) (by decide) (by decide) (by decide) (fun q9 => ?_)
  refine k_putF (ci := 10) (j := 17) (i := 0) (X' := [(h, .inr (10, [.int 0, .ref q1, .ref q2, .ref q3, .ref q4, .int 0, .ref q5, .int 0, .int 0, .int 0, .int (-1 : Int32), .int 0, .ref q6, .ref q7, .ref q8, .int 0, .int 0, .ref q9, .null, .int 0, .null, .null, .int 0])), (q1, .inl (oc (gw Γ) 12, 151, .inl (fun _ => 0))), (q2, .inl (oc (gw Γ) 12, 151, .inl (fun _ => 0))), (q3, .inl (oc (gw Γ) 12, 218, .inl (fun _ => 0))), (q4, .inl (oc (gw Γ) 12, 2180, .inl (fun _ => 0))), (q5, .inl (oc (gw Γ) 12, 800, .inl (fun _ => 0))), (q6, .inl (oc (gw Γ) 12, 12, .inl (fun _ => 0))), (q7, .inl (oc (gw Γ) 12, 28, .inl (fun _ => 0))), (q8, .inl (oc (gw Γ) 12, 28, .inl (fun _ => 0))), (q9, .inl (oc (gw Γ) 12, 16, .inl (fun _ => 0)))]) C dX10_init_83 rfl inT_X10 (by decide) k_745 tyX10 tyX10_ok nmX10 rfl hini rfl rfl rfl rfl (Nat.le_of_ble_eq_true rfl) rfl ?_
  refine k_aload_n C dX10_init_86 0 rfl rfl ?_
  refine k_bipush (v := (16 : Int32)) C dX10_init_87 (by decide) ?_
  refine k_newa_I (N := 16) C hA dX10_init_89 k_1153 (by decide) (by decide) (by decide) (by decide) (by decide) (fun q10 => ?_)
  refine k_putF (ci := 10) (j := 18) (i := 0) (X' := [(h, .inr (10, [.int 0, .ref q1, .ref q2, .ref q3, .ref q4, .int 0, .ref q5, .int 0, .int 0, .int 0, .int (-1 : Int32), .int 0, .ref q6, .ref q7, .ref q8, .int 0, .int 0, .ref q9, .ref q10, .int 0, .null, .null, .int 0])), (q1, .inl (oc (gw Γ) 12, 151, .inl (fun _ => 0))), (q2, .inl (oc (gw Γ) 12, 151, .inl (fun _ => 0))), (q3, .inl (oc (gw Γ) 12, 218, .inl (fun _ => 0))), (q4, .inl (oc (gw Γ) 12, 2180, .inl (fun _ => 0))), (q5, .inl (oc (gw Γ) 12, 800, .inl (fun _ => 0))), (q6, .inl (oc (gw Γ) 12, 12, .inl (fun _ => 0))), (q7, .inl (oc (gw Γ) 12, 28, .inl (fun _ => 0))), (q8, .inl (oc (gw Γ) 12, 28, .inl (fun _ => 0))), (q9, .inl (oc (gw Γ) 12, 16, .inl (fun _ => 0))), (q10, .inl (oc (gw Γ) 12, 16, .inl (fun _ => 0)))]) C dX10_init_91 rfl inT_X10 (by decide) k_744 tyX10 tyX10_ok nmX10 rfl hini rfl rfl rfl rfl (Nat.le_of_ble_eq_true rfl) rfl ?_
  refine k_aload_n C dX10_init_94 0 rfl rfl ?_
  refine k_bipush (v := (16 : Int32)) C dX10_init_95 (by decide) ?_
  refine k_newa_I (N := 16) C hA dX10_init_97 k_1153 (by decide) (by decide) (by decide) (by decide) (by decide) (fun q11 => ?_)
  refine k_putF (ci := 10) (j := 20) (i := 0) (X' := [(h, .inr (10, [.int 0, .ref q1, .ref q2, .ref q3, .ref q4, .int 0, .ref q5, .int 0, .int 0, .int 0, .int (-1 : Int32), .int 0, .ref q6, .ref q7, .ref q8, .int 0, .int 0, .ref q9, .ref q10, .int 0, .ref q11, .null, .int 0])), (q1, .inl (oc (gw Γ) 12, 151, .inl (fun _ => 0))), (q2, .inl (oc (gw Γ) 12, 151, .inl (fun _ => 0))), (q3, .inl (oc (gw Γ) 12, 218, .inl (fun _ => 0))), (q4, .inl (oc (gw Γ) 12, 2180, .inl (fun _ => 0))), (q5, .inl (oc (gw Γ) 12, 800, .inl (fun _ => 0))), (q6, .inl (oc (gw Γ) 12, 12, .inl (fun _ => 0))), (q7, .inl (oc (gw Γ) 12, 28, .inl (fun _ => 0))), (q8, .inl (oc (gw Γ) 12, 28, .inl (fun _ => 0))), (q9, .inl (oc (gw Γ) 12, 16, .inl (fun _ => 0))), (q10, .inl (oc (gw Γ) 12, 16, .inl (fun _ => 0))), (q11, .inl (oc (gw Γ) 12, 16, .inl (fun _ => 0)))]) C dX10_init_99 rfl inT_X10 (by decide) k_746 tyX10 tyX10_ok nmX10 rfl hini rfl rfl rfl rfl (Nat.le_of_ble_eq_true rfl) rfl ?_
  refine k_aload_n C dX10_init_102 0 rfl rfl ?_
  refine k_iconst (v := (4 : Int32)) C dX10_init_103 (by decide) ?_
  refine k_newa_I (N := 4) C hA dX10_init_104 k_1153 (by decide) (by decide) (by decide) (by decide) (by decide) (fun q12 => ?_)
  refine k_putF (ci := 10) (j := 21) (i := 0) (X' := [(h, .inr (10, [.int 0, .ref q1, .ref q2, .ref q3, .ref q4, .int 0, .ref q5, .int 0, .int 0, .int 0, .int (-1 : Int32), .int 0, .ref q6, .ref q7, .ref q8, .int 0, .int 0, .ref q9, .ref q10, .int 0, .ref q11, .ref q12, .int 0])), (q1, .inl (oc (gw Γ) 12, 151, .inl (fun _ => 0))), (q2, .inl (oc (gw Γ) 12, 151, .inl (fun _ => 0))), (q3, .inl (oc (gw Γ) 12, 218, .inl (fun _ => 0))), (q4, .inl (oc (gw Γ) 12, 2180, .inl (fun _ => 0))), (q5, .inl (oc (gw Γ) 12, 800, .inl (fun _ => 0))), (q6, .inl (oc (gw Γ) 12, 12, .inl (fun _ => 0))), (q7, .inl (oc (gw Γ) 12, 28, .inl (fun _ => 0))), (q8, .inl (oc (gw Γ) 12, 28, .inl (fun _ => 0))), (q9, .inl (oc (gw Γ) 12, 16, .inl (fun _ => 0))), (q10, .inl (oc (gw Γ) 12, 16, .inl (fun _ => 0))), (q11, .inl (oc (gw Γ) 12, 16, .inl (fun _ => 0))), (q12, .inl (oc (gw Γ) 12, 4, .inl (fun _ => 0)))]) C dX10_init_106 rfl inT_X10 (by decide) k_747 tyX10 tyX10_ok nmX10 rfl hini rfl rfl rfl rfl (Nat.le_of_ble_eq_true rfl) rfl ?_
  refine k_aload_n C dX10_init_109 0 rfl rfl ?_
  refine k_getR (ci := 10) (j := 1) (i := 0) C dX10_init_110 rfl inT_X10 (by decide) k_506 rfl rfl ?_
  refine k_iconst (v := (3 : Int32)) C dX10_init_113 (by decide) ?_
  refine k_iconst (v := (2 : Int32)) C dX10_init_114 (by decide) ?_
  refine k_iast (i := 1) (X' := [(h, .inr (10, [.int 0, .ref q1, .ref q2, .ref q3, .ref q4, .int 0, .ref q5, .int 0, .int 0, .int 0, .int (-1 : Int32), .int 0, .ref q6, .ref q7, .ref q8, .int 0, .int 0, .ref q9, .ref q10, .int 0, .ref q11, .ref q12, .int 0])), (q1, .inl (oc (gw Γ) 12, 151, .inl (upd (fun _ => 0) ((3 : Int32)).toNatClampNeg (2 : Int32)))), (q2, .inl (oc (gw Γ) 12, 151, .inl (fun _ => 0))), (q3, .inl (oc (gw Γ) 12, 218, .inl (fun _ => 0))), (q4, .inl (oc (gw Γ) 12, 2180, .inl (fun _ => 0))), (q5, .inl (oc (gw Γ) 12, 800, .inl (fun _ => 0))), (q6, .inl (oc (gw Γ) 12, 12, .inl (fun _ => 0))), (q7, .inl (oc (gw Γ) 12, 28, .inl (fun _ => 0))), (q8, .inl (oc (gw Γ) 12, 28, .inl (fun _ => 0))), (q9, .inl (oc (gw Γ) 12, 16, .inl (fun _ => 0))), (q10, .inl (oc (gw Γ) 12, 16, .inl (fun _ => 0))), (q11, .inl (oc (gw Γ) 12, 16, .inl (fun _ => 0))), (q12, .inl (oc (gw Γ) 12, 4, .inl (fun _ => 0)))]) C dX10_init_115 rfl (by unfold vp_in; decide) rfl ?_
  refine k_aload_n C dX10_init_116 0 rfl rfl ?_
  refine k_getR (ci := 10) (j := 1) (i := 0) C dX10_init_117 rfl inT_X10 (by decide) k_506 rfl rfl ?_
  refine k_bipush (v := (6 : Int32)) C dX10_init_120 (by decide) ?_
  refine k_bipush (v := (20 : Int32)) C dX10_init_122 (by decide) ?_
  refine k_iast (i := 1) (X' := [(h, .inr (10, [.int 0, .ref q1, .ref q2, .ref q3, .ref q4, .int 0, .ref q5, .int 0, .int 0, .int 0, .int (-1 : Int32), .int 0, .ref q6, .ref q7, .ref q8, .int 0, .int 0, .ref q9, .ref q10, .int 0, .ref q11, .ref q12, .int 0])), (q1, .inl (oc (gw Γ) 12, 151, .inl (upd (upd (fun _ => 0) ((3 : Int32)).toNatClampNeg (2 : Int32)) ((6 : Int32)).toNatClampNeg (20 : Int32)))), (q2, .inl (oc (gw Γ) 12, 151, .inl (fun _ => 0))), (q3, .inl (oc (gw Γ) 12, 218, .inl (fun _ => 0))), (q4, .inl (oc (gw Γ) 12, 2180, .inl (fun _ => 0))), (q5, .inl (oc (gw Γ) 12, 800, .inl (fun _ => 0))), (q6, .inl (oc (gw Γ) 12, 12, .inl (fun _ => 0))), (q7, .inl (oc (gw Γ) 12, 28, .inl (fun _ => 0))), (q8, .inl (oc (gw Γ) 12, 28, .inl (fun _ => 0))), (q9, .inl (oc (gw Γ) 12, 16, .inl (fun _ => 0))), (q10, .inl (oc (gw Γ) 12, 16, .inl (fun _ => 0))), (q11, .inl (oc (gw Γ) 12, 16, .inl (fun _ => 0))), (q12, .inl (oc (gw Γ) 12, 4, .inl (fun _ => 0)))]) C dX10_init_124 rfl (by unfold vp_in; decide) rfl ?_
  exact hE (fun i => [q1, q2, q3, q4, q5, q6, q7, q8, q9, q10, q11, q12].getD i 0) _ _ 125 _ (by decide) (by decide) dX10_init_125
