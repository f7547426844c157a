/-! THE LAW'S BEGINNING -/
theorem W_room {p : Program} {l : Launch} {e : Env} {R R' : Room} {s : State} {m : MethodId} {args : Array Value} {below : List Frame} {meth : Method} {c : Code} {H : Heap} {locs : List Loc} {cells slots : Nat} {Q : State → Prop} {g : JFrame} (hf : R'.frames ≤ R.frames) (hl : R'.locals ≤ R.locals) (hc : R'.cells ≤ R.cells) (hs : R'.slots ≤ R.slots) (k : W p l e R' s m args below meth c H locs cells slots Q g) : W p l e R s m args below meth c H locs cells slots Q g := by
  intro T hT X
  refine k T hT ⟨X.admits, X.cas, X.clock, X.frames, ?_, X.hears, X.method, X.code, X.here, X.tail, X.warmed, X.limits, X.bytes, X.same⟩
  have h := X.room
  simp only [State.hasRoom, Bool.and_eq_true, decide_eq_true_eq] at h ⊢
  obtain ⟨⟨⟨⟨h1, h2, h3, h4, h5, h6⟩, h7⟩, h8⟩, h9⟩ := h
  exact ⟨⟨⟨⟨by omega, by omega, by omega, by omega, by omega, h6⟩, by omega⟩, by omega⟩, h9⟩
def vL : List (String × Nat) := [(RX8, 46), (RX8, 55), (RX8, 107), (RX8, 60), (RX8, 126), (RX8, 65), (RX8, 130), (RX8, 135), (RX8, 139), (RX8, 143)]
abbrev fl0 : List Cond := flatC (Jvm.Cond.and given_1 narrow_1)
def pST : List Nat := [132, 141, 153, 163, 175, 184, 196, 207, 215, 223]
theorem fl_at (b : Nat) (s : State) (h : ∀ w ∈ fl0, w.before #[Value.ref b] s = true) {w : Cond} (i : Nat) (hi : fl0[i]? = some w) : w.before #[Value.ref b] s = true := h _ (List.mem_of_getElem? hi)
theorem st_ex : ∀ i, i < nST → fl0[pST.getD i 0]? = some (Cond.exactly (.string RX8 (vL.getD i ("", 0)).2) "java/lang/String") := by decide +kernel
theorem st_co : ∀ i, i < nST → fl0[pST.getD i 0 + 1]? = some (Cond.eq (.field (.string RX8 (vL.getD i ("", 0)).2) "java/lang/String" "coder" "B") (.int 0)) := by decide +kernel
theorem st_ar : ∀ i, i < nST → fl0[pST.getD i 0 + 2]? = some (Cond.arrayOf (.field (.string RX8 (vL.getD i ("", 0)).2) "java/lang/String" "value" "[B") .byte) := by decide +kernel
theorem st_le : ∀ i, i < nST → fl0[pST.getD i 0 + 3]? = some (Cond.eq (.length (.field (.string RX8 (vL.getD i ("", 0)).2) "java/lang/String" "value" "[B")) (.int (Int32.ofNat (lenST.getD i 0)))) := by decide +kernel
theorem st_el : ∀ i, i < nST → ∀ j, j < lenST.getD i 0 → fl0[pST.getD i 0 + 4 + j]? = some (Cond.eq (.elem (.field (.string RX8 (vL.getD i ("", 0)).2) "java/lang/String" "value" "[B") (.int (Int32.ofNat j))) (.int ((bytST.getD i []).getD j 0))) := by decide +kernel
/-- a word's String lies as the Statement says -/
theorem st_one (b : Nat) (s : State) (h : ∀ w ∈ fl0, w.before #[Value.ref b] s = true) (A : Nat → Prop) (hA : ∀ a : Nat, a < s.heap.size → ¬ A a) (i : Nat) (hi : i < nST) : ∃ q : Nat × Nat, (Term.string RX8 (vL.getD i ("", 0)).2).eval #[Value.ref b] s none [] s = some (.ref q.1) ∧ va_O "java/lang/String" q.1 A s s.heap ∧ va_OF "java/lang/String" "coder" "B" (.int 0) q.1 A s s.heap ∧ va_OF "java/lang/String" "value" "[B" (.ref q.2) q.1 A s s.heap ∧ va_T .byte q.2 (lenST.getD i 0) (fun j => .int ((bytST.getD i []).getD j 0)) A s s.heap := by
  obtain ⟨adK, adV, hS, hev⟩ := vk_Sof (args := #[Value.ref b]) (s := s) (N := 1) (tm := fun _ => .string RX8 (vL.getD i ("", 0)).2) (len := [lenST.getD i 0]) (byt := [bytST.getD i []]) (A := A)
    (fun k hk => by
      obtain rfl : k = 0 := by omega
      exact Nat.lt_trans (lenST_lt i hi) (by decide))
    (fun k hk => fl_at b s h _ (st_ex i hi)) (fun k hk => fl_at b s h _ (st_co i hi)) (fun k hk => fl_at b s h _ (st_ar i hi))
    (fun k hk => by
      obtain rfl : k = 0 := by omega
      exact fl_at b s h _ (st_le i hi))
    (fun k hk j hj => by
      obtain rfl : k = 0 := by omega
      exact fl_at b s h _ (st_el i hi j hj))
    (fun k j hk hj hne => absurd (by omega) hne) hA
  obtain ⟨a1, a2, a3, a4⟩ := hS.1 0 (by decide)
  exact ⟨(adK 0, adV 0), hev 0 (by decide), a1, a2, a3, a4⟩
def pTX : List Nat := [67, 94, 232, 257, 281, 310, 339, 384, 426, 462, 489, 515, 563, 592, 632, 662, 697, 737, 766, 797, 825, 853, 883, 924]
theorem tx_ex : ∀ i, i < 24 → fl0[pTX.getD i 0]? = some (Cond.exactly (.string RX9 (strW.getD (10 + i) ("", 0, "", 0)).2.1) "java/lang/String") := by decide +kernel
def pSR : List Nat := [639, 705, 714, 715, 720, 721, 730, 731, 732, 733, 551, 598, 747, 792, 808, 813, 850, 876, 890, 916, 935, 951, 1020, 1036, 1096, 1104, 1113, 1129, 1137, 1147, 1158, 1249, 1262, 1274]
theorem sr_at : ∀ i, i < 34 → (lw_tbl[pSR.getD i 0]? = some (Cond.stringRef (strW.getD i ("", 0, "", 0)).1 (strW.getD i ("", 0, "", 0)).2.1 (strW.getD i ("", 0, "", 0)).2.2.1) ∧ (strW.getD i ("", 0, "", 0)).2.2.2 = i) := by decide +kernel
theorem sr_own : ∀ i, i < 34 → (strW.getD i ("", 0, "", 0)).1 = (if i < 10 then RX8 else RX9) ∧ (i < 10 → (strW.getD i ("", 0, "", 0)).2.1 = (vL.getD i ("", 0)).2) := by decide +kernel
def pNW : List Nat := [847, 981, 982, 129, 164, 192, 206, 251, 270, 316, 322, 360]
theorem nw_at : ∀ i, i < 12 → lw_tbl[pNW.getD i 0]? = some (Cond.methodLinkNest (nestW.getD i ("", 0, objectInit, "")).1 (nestW.getD i ("", 0, objectInit, "")).2.1 (nestW.getD i ("", 0, objectInit, "")).2.2.1 (nestW.getD i ("", 0, objectInit, "")).2.2.2) := by decide +kernel
def pDC : List Nat := [513, 515, 517]
theorem dc_at : ∀ i, i < 3 → lw_tbl[pDC.getD i 0]? = some (Cond.declares (dclW.getD i objectInit)) := by decide +kernel
def pCA : List Nat := [511, 740, 591, 909]
theorem ca_at : ∀ i, i < 4 → lw_tbl[pCA.getD i 0]? = some (Cond.castable (castW.getD i "") (castW.getD i "")) := by decide +kernel
def pNC : List Nat := [36, 37, 50, 38, 52, 51, 64]
theorem nc_at : ∀ i, i < 7 → fl0[pNC.getD i 0]? = some (Cond.not (Cond.castable (ncW.getD i ("", "")).1 (ncW.getD i ("", "")).2)) := by decide +kernel
theorem mem_getD {α : Type} {l : List α} {x d : α} (h : x ∈ l) : ∃ i, i < l.length ∧ l.getD i d = x := by
  obtain ⟨i, hi⟩ := List.getElem?_of_mem h
  have hl := (List.getElem?_eq_some_iff.mp hi).1
  exact ⟨i, hl, by rw [List.getD_eq_getElem?_getD, hi]; rfl⟩
theorem ar_one {s : State} {av : Array Value} {ty : FieldType} (hno : ∀ C, ty ≠ .object C) (h : (Cond.arrayClass ty).before av s = true) : ∃ cA : ClassId, ArrOfT s cA ty ∧ va_RA s cA ty := by
  obtain ⟨cA, kA, comp, h1, h2, h3⟩ := Cond.arrayClass_spec (show (Cond.arrayClass ty).holds av s none s [] = true from h)
  refine ⟨cA, fun n z => ⟨fun k h => (by cases h), kA, h2, comp, h3⟩, ?_⟩
  unfold va_RA
  cases ty with
  | object C => exact absurd rfl (hno C)
  | _ => exact h1
theorem ar_obj {s : State} {av : Array Value} {C : String} (h : (Cond.arrayOver (.object C)).before av s = true) : ∃ cA : ClassId, ArrOfT s cA (.object C) ∧ va_RA s cA (.object C) := by
  obtain ⟨comp, cA, kA, f4, -, f2, f3, f1⟩ := Cond.arrayOver_spec (show (Cond.arrayOver (.object C)).holds av s none s [] = true from h)
  exact ⟨cA, fun N z => ⟨(fun k h => by cases h), kA, f2, comp, f3⟩, kA, comp, f2, f3, f4, f1⟩
/-- what never changes holds at the law's entry -/
theorem sx_start (b : Nat) (s : State) (hts : ∀ w ∈ lw_tbl, w.before #[Value.ref b] s = true) (h : ∀ w ∈ fl0, w.before #[Value.ref b] s = true) : ∃ (D : va_G) (oc9 : Nat → ClassId) (oK9 oV9 : Nat → Nat), ∀ oa9 : Nat → Nat, Sx (D, oa9, oc9, s.heap.size, oK9, oV9) s s.heap := by
  have hT : ∀ w ∈ TT, w.before #[Value.ref b] s = true := fun w hw => hts w (List.mem_filter.mp hw).1
  have hA : ∀ a : Nat, a < s.heap.size → ¬ (fun q : Nat => s.heap.size ≤ q) a := fun a ha => Nat.not_le.mpr ha
  obtain ⟨c0, i0, hK0⟩ := u_known (C := RX0) (T := TX0) (N := 6) (n := 6) hT inT_X0 (hts (.instantiable RX0 6) (List.mem_of_getElem? (i := 321) (by decide +kernel)))
  obtain ⟨c1, i1, hK1⟩ := u_known (C := RX1) (T := TX1) (N := 3) (n := 3) hT inT_X1 (hts (.instantiable RX1 3) (List.mem_of_getElem? (i := 250) (by decide +kernel)))
  obtain ⟨c2, i2, hK2⟩ := u_known (C := RX2) (T := TX2) (N := 3) (n := 3) hT inT_X2 (hts (.instantiable RX2 3) (List.mem_of_getElem? (i := 185) (by decide +kernel)))
  obtain ⟨c3, i3, hK3⟩ := u_known (C := RX3) (T := TX3) (N := 3) (n := 3) hT inT_X3 (hts (.instantiable RX3 3) (List.mem_of_getElem? (i := 315) (by decide +kernel)))
  obtain ⟨c4, i4, hK4⟩ := u_known (C := RX4) (T := TX4) (N := 12) (n := 12) hT inT_X4 (hts (.instantiable RX4 12) (List.mem_of_getElem? (i := 269) (by decide +kernel)))
  obtain ⟨c5, i5, hK5⟩ := u_known (C := RX5) (T := TX5) (N := 10) (n := 10) hT inT_X5 (hts (.instantiable RX5 10) (List.mem_of_getElem? (i := 205) (by decide +kernel)))
  obtain ⟨c6, i6, hK6⟩ := u_known (C := RX6) (T := TX6) (N := 18) (n := 18) hT inT_X6 (hts (.instantiable RX6 18) (List.mem_of_getElem? (i := 359) (by decide +kernel)))
  obtain ⟨c7, i7, hK7⟩ := u_known (C := RX7) (T := TX7) (N := 4) (n := 4) hT inT_X7 (hts (.instantiable RX7 4) (List.mem_of_getElem? (i := 163) (by decide +kernel)))
  obtain ⟨c8, i8, hK8⟩ := u_known (C := RX8) (T := TX8) (N := 8) (n := 8) hT inT_X8 (hts (.instantiable RX8 8) (List.mem_of_getElem? (i := 128) (by decide +kernel)))
  obtain ⟨c9, i9, hK9⟩ := u_known (C := RX9) (T := TX9) (N := 9) (n := 9) hT inT_X9 (hts (.instantiable RX9 9) (List.mem_of_getElem? (i := 120) (by decide +kernel)))
  obtain ⟨c10, i10, hK10⟩ := u_known (C := RX10) (T := TX10) (N := 23) (n := 23) hT inT_X10 (hts (.instantiable RX10 23) (List.mem_of_getElem? (i := 1280) (by decide +kernel)))
  obtain ⟨cB, hcB⟩ := ar_one (s := s) (av := #[Value.ref b]) (ty := .byte) (by intro C h; cases h) (hts _ (List.mem_of_getElem? (i := 161) (by decide +kernel)))
  obtain ⟨cI, hcI⟩ := ar_one (s := s) (av := #[Value.ref b]) (ty := .int) (by intro C h; cases h) (hts _ (List.mem_of_getElem? (i := 183) (by decide +kernel)))
  obtain ⟨cZ, hcZ⟩ := ar_one (s := s) (av := #[Value.ref b]) (ty := .boolean) (by intro C h; cases h) (hts _ (List.mem_of_getElem? (i := 313) (by decide +kernel)))
  obtain ⟨cO, hcO⟩ := ar_obj (s := s) (av := #[Value.ref b]) (C := "GrantAllocation$State") (hts _ (List.mem_of_getElem? (i := 191) (by decide +kernel)))
  obtain ⟨cJ, hcJ⟩ := ar_one (s := s) (av := #[Value.ref b]) (ty := .long) (by intro C h; cases h) (hts _ (List.mem_of_getElem? (i := 1739) (by decide +kernel)))
  obtain ⟨cD, hcD⟩ := ar_one (s := s) (av := #[Value.ref b]) (ty := .double) (by intro C h; cases h) (hts _ (List.mem_of_getElem? (i := 1740) (by decide +kernel)))
  have hst : ∀ i, ∃ q : Nat × Nat, i < nST → (Term.string RX8 (vL.getD i ("", 0)).2).eval #[Value.ref b] s none [] s = some (.ref q.1) ∧ va_O "java/lang/String" q.1 (fun q => s.heap.size ≤ q) s s.heap ∧ va_OF "java/lang/String" "coder" "B" (.int 0) q.1 (fun q => s.heap.size ≤ q) s s.heap ∧ va_OF "java/lang/String" "value" "[B" (.ref q.2) q.1 (fun q => s.heap.size ≤ q) s s.heap ∧ va_T .byte q.2 (lenST.getD i 0) (fun j => .int ((bytST.getD i []).getD j 0)) (fun q => s.heap.size ≤ q) s s.heap := by
    intro i
    by_cases hi : i < nST
    · obtain ⟨q, hq⟩ := st_one b s h (fun q => s.heap.size ≤ q) hA i hi
      exact ⟨q, fun _ => hq⟩
    · exact ⟨(0, 0), fun h9 => absurd h9 hi⟩
  obtain ⟨aw, haw⟩ := Classical.axiomOfChoice hst
  have htx : ∀ i, ∃ q : Nat, i < 24 → (Term.string RX9 (strW.getD (10 + i) ("", 0, "", 0)).2.1).eval #[Value.ref b] s none [] s = some (.ref q) := by
    intro i
    by_cases hi : i < 24
    · obtain ⟨q, -, -, -, hq, -⟩ := Cond.exactly_spec (args := #[Value.ref b]) (first := s) (o := none) (s := s) (idx := []) (fl_at b s h _ (tx_ex i hi))
      exact ⟨q, fun _ => hq⟩
    · exact ⟨0, fun h9 => absurd h9 hi⟩
  obtain ⟨at9, hat⟩ := Classical.axiomOfChoice htx
  refine ⟨(fun k => [c0, c1, c2, c3, c4, c5, c6, c7, c8, c9, c10].getD k 0, fun k => [i0, i1, i2, i3, i4, i5, i6, i7, i8, i9, i10].getD k (fun _ => 0)), fun k => [cB, cI, cZ, cO, cJ, cD].getD (k - 11) 0, fun i => if i < 10 then (aw i).1 else at9 (i - 10), fun i => (aw i).2, fun oa9 => ?_⟩
  refine ⟨⟨fun k q hq => ?_, fun k q hq => ?_⟩, fun q hq => ?_, vx_Zqof (hts _ (List.mem_of_getElem? (i := 536) (by decide +kernel))) (hts _ (List.mem_of_getElem? (i := 104) (by decide +kernel))) (fl_at b s h 4 (by decide +kernel)) hA, vx_Zqof (hts _ (List.mem_of_getElem? (i := 538) (by decide +kernel))) (hts _ (List.mem_of_getElem? (i := 104) (by decide +kernel))) (fl_at b s h 5 (by decide +kernel)) hA, fun q hq => ?_, ⟨va_Zqof (hts _ (List.mem_of_getElem? (i := 669) (by decide +kernel))) (hts _ (List.mem_of_getElem? (i := 112) (by decide +kernel))) (fl_at b s h 7 (by decide +kernel)) hA, fun i hi => ?_⟩, va_Zof (hts _ (List.mem_of_getElem? (i := 653) (by decide +kernel))) (hts _ (List.mem_of_getElem? (i := 110) (by decide +kernel))) (va_eqt (fl_at b s h 6 (by decide +kernel))) hA, Nat.le_refl _, fun q hq => ?_, fun q hq => ?_, fun q hq => ?_⟩
  · match k, hq with
    | 0, hq => cases hq; exact hK0
    | 1, hq => cases hq; exact hK1
    | 2, hq => cases hq; exact hK2
    | 3, hq => cases hq; exact hK3
    | 4, hq => cases hq; exact hK4
    | 5, hq => cases hq; exact hK5
    | 6, hq => cases hq; exact hK6
    | 7, hq => cases hq; exact hK7
    | 8, hq => cases hq; exact hK8
    | 9, hq => cases hq; exact hK9
    | 10, hq => cases hq; exact hK10
    | k + 11, hq => exact absurd hq (by simp [vwCl])
  · match k, hq with
    | 0, hq => cases hq; exact hcB
    | 1, hq => cases hq; exact hcI
    | 2, hq => cases hq; exact hcZ
    | 3, hq => cases hq; exact hcO
    | 4, hq => cases hq; exact hcJ
    | 5, hq => cases hq; exact hcD
    | k + 6, hq => exact absurd hq (by simp [oty])
  · obtain ⟨i, hi, rfl⟩ := mem_getD (d := ("", 0, objectInit, "")) hq
    exact va_Nw.of rfl (hts _ (List.mem_of_getElem? (nw_at i hi)))
  · obtain ⟨i, hi, rfl⟩ := mem_getD (d := ("", 0, "", 0)) hq
    have hi : i < 34 := hi
    obtain ⟨h1, h2⟩ := sr_at i hi
    obtain ⟨h3, h4⟩ := sr_own i hi
    refine vk_R.of (A := #[Value.ref b]) (hts _ (List.mem_of_getElem? h1)) ?_
    rw [h2, h3]
    by_cases h10 : i < 10
    · have e1 : oK ((fun k => [c0, c1, c2, c3, c4, c5, c6, c7, c8, c9, c10].getD k 0, fun k => [i0, i1, i2, i3, i4, i5, i6, i7, i8, i9, i10].getD k (fun _ => 0)), oa9, fun k => [cB, cI, cZ, cO, cJ, cD].getD (k - 11) 0, s.heap.size, fun i => if i < 10 then (aw i).1 else at9 (i - 10), fun i => (aw i).2) i = (aw i).1 := if_pos h10
      rw [e1, if_pos h10, h4 h10]
      exact (haw i h10).1
    · have e1 : oK ((fun k => [c0, c1, c2, c3, c4, c5, c6, c7, c8, c9, c10].getD k 0, fun k => [i0, i1, i2, i3, i4, i5, i6, i7, i8, i9, i10].getD k (fun _ => 0)), oa9, fun k => [cB, cI, cZ, cO, cJ, cD].getD (k - 11) 0, s.heap.size, fun i => if i < 10 then (aw i).1 else at9 (i - 10), fun i => (aw i).2) i = at9 (i - 10) := if_neg h10
      rw [e1, if_neg h10]
      have h5 := hat (i - 10) (by omega)
      rw [show 10 + (i - 10) = i by omega] at h5
      exact h5
  · have e1 : oK ((fun k => [c0, c1, c2, c3, c4, c5, c6, c7, c8, c9, c10].getD k 0, fun k => [i0, i1, i2, i3, i4, i5, i6, i7, i8, i9, i10].getD k (fun _ => 0)), oa9, fun k => [cB, cI, cZ, cO, cJ, cD].getD (k - 11) 0, s.heap.size, fun i => if i < 10 then (aw i).1 else at9 (i - 10), fun i => (aw i).2) i = (aw i).1 := if_pos hi
    rw [e1]
    exact (haw i hi).2
  · obtain ⟨i, hi, rfl⟩ := mem_getD (d := objectInit) hq
    exact va_Nw.of rfl (hts _ (List.mem_of_getElem? (dc_at i hi)))
  · obtain ⟨i, hi, rfl⟩ := mem_getD (d := "") hq
    exact va_Nw.of rfl (hts _ (List.mem_of_getElem? (ca_at i hi)))
  · obtain ⟨i, hi, rfl⟩ := mem_getD (d := ("", "")) hq
    exact va_Nc.of (fl_at b s h _ (nc_at i hi))
