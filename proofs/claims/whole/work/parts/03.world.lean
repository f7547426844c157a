/-! THE WORLD: a memory of cells by abstract places; the class's objects, the model's and the law's two rows stand at fixed places -/
abbrev Mem : Type := (Nat → Nat → Int32) × (Nat → Nat → Nat) × (Nat → Nat → Int64) × (Nat → Nat → UInt64)
def gI (m : Mem) (k j : Nat) : Int32 := m.1 k j
def gR (m : Mem) (k j : Nat) : Nat := m.2.1 k j
def gJ (m : Mem) (k j : Nat) : Int64 := m.2.2.1 k j
def gD (m : Mem) (k j : Nat) : UInt64 := m.2.2.2 k j
def up2 {α : Type} (f : Nat → Nat → α) (k j : Nat) (v : α) : Nat → Nat → α := fun a b => if a = k ∧ b = j then v else f a b
def sI (m : Mem) (k j : Nat) (v : Int32) : Mem := (up2 m.1 k j v, m.2)
def sR (m : Mem) (k j : Nat) (v : Nat) : Mem := (m.1, up2 m.2.1 k j v, m.2.2)
def sJ (m : Mem) (k j : Nat) (v : Int64) : Mem := (m.1, m.2.1, up2 m.2.2.1 k j v, m.2.2.2)
def sD (m : Mem) (k j : Nat) (v : UInt64) : Mem := (m.1, m.2.1, m.2.2.1, up2 m.2.2.2 k j v)
/-- a stretch of a row copied from another one -/
def cpI (m : Mem) (a sp b dp n : Nat) : Mem := (fun k j => if k = b ∧ dp ≤ j ∧ j < dp + n then m.1 a (sp + (j - dp)) else m.1 k j, m.2)
theorem gI_sI (m : Mem) (k j : Nat) (v : Int32) (a b : Nat) : gI (sI m k j v) a b = if a = k ∧ b = j then v else gI m a b := rfl
theorem gR_sI (m : Mem) (k j : Nat) (v : Int32) (a b : Nat) : gR (sI m k j v) a b = gR m a b := rfl
theorem gJ_sI (m : Mem) (k j : Nat) (v : Int32) (a b : Nat) : gJ (sI m k j v) a b = gJ m a b := rfl
theorem gD_sI (m : Mem) (k j : Nat) (v : Int32) (a b : Nat) : gD (sI m k j v) a b = gD m a b := rfl
theorem gI_sR (m : Mem) (k j : Nat) (v : Nat) (a b : Nat) : gI (sR m k j v) a b = gI m a b := rfl
theorem gR_sR (m : Mem) (k j : Nat) (v : Nat) (a b : Nat) : gR (sR m k j v) a b = if a = k ∧ b = j then v else gR m a b := rfl
theorem gJ_sR (m : Mem) (k j : Nat) (v : Nat) (a b : Nat) : gJ (sR m k j v) a b = gJ m a b := rfl
theorem gD_sR (m : Mem) (k j : Nat) (v : Nat) (a b : Nat) : gD (sR m k j v) a b = gD m a b := rfl
theorem gI_sJ (m : Mem) (k j : Nat) (v : Int64) (a b : Nat) : gI (sJ m k j v) a b = gI m a b := rfl
theorem gR_sJ (m : Mem) (k j : Nat) (v : Int64) (a b : Nat) : gR (sJ m k j v) a b = gR m a b := rfl
theorem gJ_sJ (m : Mem) (k j : Nat) (v : Int64) (a b : Nat) : gJ (sJ m k j v) a b = if a = k ∧ b = j then v else gJ m a b := rfl
theorem gD_sJ (m : Mem) (k j : Nat) (v : Int64) (a b : Nat) : gD (sJ m k j v) a b = gD m a b := rfl
theorem gI_sD (m : Mem) (k j : Nat) (v : UInt64) (a b : Nat) : gI (sD m k j v) a b = gI m a b := rfl
theorem gR_sD (m : Mem) (k j : Nat) (v : UInt64) (a b : Nat) : gR (sD m k j v) a b = gR m a b := rfl
theorem gJ_sD (m : Mem) (k j : Nat) (v : UInt64) (a b : Nat) : gJ (sD m k j v) a b = gJ m a b := rfl
theorem gD_sD (m : Mem) (k j : Nat) (v : UInt64) (a b : Nat) : gD (sD m k j v) a b = if a = k ∧ b = j then v else gD m a b := rfl
theorem gI_cpI (m : Mem) (a sp b dp n k j : Nat) : gI (cpI m a sp b dp n) k j = if k = b ∧ dp ≤ j ∧ j < dp + n then gI m a (sp + (j - dp)) else gI m k j := rfl
theorem gR_cpI (m : Mem) (a sp b dp n k j : Nat) : gR (cpI m a sp b dp n) k j = gR m k j := rfl
theorem gJ_cpI (m : Mem) (a sp b dp n k j : Nat) : gJ (cpI m a sp b dp n) k j = gJ m k j := rfl
theorem gD_cpI (m : Mem) (a sp b dp n k j : Nat) : gD (cpI m a sp b dp n) k j = gD m k j := rfl
abbrev NC : Nat := 110
def kdL : List Nat := [9, 8, 11, 7, 12, 12, 2, 14, 7, 12, 12, 7, 12, 12, 7, 12, 12, 7, 12, 12, 7, 12, 12, 7, 12, 12, 7, 12, 12, 7, 12, 12, 7, 12, 12, 7, 12, 12, 5, 12, 12, 12, 12, 12, 12, 12, 12, 12, 1, 12, 12, 4, 12, 13, 12, 12, 12, 12, 12, 12, 3, 0, 12, 12, 12, 12, 0, 12, 12, 12, 12, 6, 12, 12, 12, 12, 12, 12, 12, 12, 12, 12, 12, 6, 12, 12, 12, 12, 12, 12, 12, 12, 12, 12, 12, 10, 12, 12, 12, 12, 12, 12, 12, 12, 12, 12, 12, 12, 15, 16]
def lnL : List Nat := [0, 0, 800, 0, 192, 12, 0, 10, 0, 192, 12, 0, 192, 12, 0, 192, 12, 0, 192, 12, 0, 192, 12, 0, 192, 12, 0, 192, 12, 0, 192, 12, 0, 192, 12, 0, 192, 12, 0, 12, 12, 12, 16, 16, 16, 16, 16, 16, 0, 16, 4, 0, 192, 192, 12, 16, 12, 12, 16, 16, 0, 0, 256, 256, 256, 256, 0, 256, 256, 256, 256, 0, 4, 12, 12, 12, 12, 12, 16, 16, 16, 16, 16, 0, 4, 12, 12, 12, 12, 12, 16, 16, 16, 16, 16, 0, 151, 151, 218, 2180, 800, 12, 28, 28, 16, 16, 16, 4, 1, 1]
def rtL : List (List Nat) := [[1, 3, 6, 38, 48, 51, 60, 0, 0], [2], [], [4, 5], [], [], [7], [8, 11, 14, 17, 20, 23, 26, 29, 32, 35], [9, 10], [], [], [12, 13], [], [], [15, 16], [], [], [18, 19], [], [], [21, 22], [], [], [24, 25], [], [], [27, 28], [], [], [30, 31], [], [], [33, 34], [], [], [36, 37], [], [], [39, 40, 41, 42, 43, 44, 45, 46, 47], [], [], [], [], [], [], [], [], [], [49, 50], [], [], [52, 53, 54, 55, 56, 57, 58, 59], [], [], [], [], [], [], [], [], [61, 66], [], [], [], [], [], [], [], [], [], [], [0, 0, 0, 72, 73, 74, 75, 76, 77, 78, 79, 80, 81, 82, 0, 0, 0, 0], [], [], [], [], [], [], [], [], [], [], [], [0, 0, 0, 84, 85, 86, 87, 88, 89, 90, 91, 92, 93, 94, 0, 0, 0, 0], [], [], [], [], [], [], [], [], [], [], [], [0, 96, 97, 98, 99, 0, 100, 0, 0, 0, 0, 0, 101, 102, 103, 0, 0, 104, 105, 0, 106, 107, 0], [], [], [], [], [], [], [], [], [], [], [], [], [], []]
def nfL : List Nat := [6, 3, 3, 3, 12, 10, 18, 4, 8, 9, 23]
def rfL : List (List Bool) := [[true, true, false, true, true, false], [true, true, false], [true, false, false], [true, true, false], [true, true, true, true, true, true, true, true, false, false, false, false], [true, true, true, true, true, true, true, true, true, false], [false, false, false, true, true, true, true, true, true, true, true, true, true, true, false, false, false, false], [true, true, false, false], [true, false, false, false, false, false, false, false], [true, true, true, true, true, true, true, true, true], [false, true, true, true, true, false, true, false, false, false, false, false, true, true, true, false, false, true, true, false, true, true, false]]
abbrev nST : Nat := 10
def lenST : List Nat := [5, 8, 6, 8, 5, 8, 7, 4, 4, 5]
def bytST : List (List Int32) := [[112, 97, 110, 101, 108], [114, 101, 118, 105, 101, 119, 101, 114], [116, 111, 112, 105, 99, 115], [112, 114, 111, 112, 111, 115, 97, 108], [108, 101, 97, 115, 116], [99, 111, 110, 102, 108, 105, 99, 116], [114, 101, 118, 105, 101, 119, 115], [108, 105, 110, 101], [112, 111, 111, 108], [108, 105, 109, 105, 116]]
def strW : List (String × Nat × String × Nat) := [(RX8, 46, "panel", 0), (RX8, 55, "reviewer", 1), (RX8, 107, "topics", 2), (RX8, 60, "proposal", 3), (RX8, 126, "least", 4), (RX8, 65, "conflict", 5), (RX8, 130, "reviews", 6), (RX8, 135, "line", 7), (RX8, 139, "pool", 8), (RX8, 143, "limit", 9), (RX9, 74, "the text buffer is full", 10), (RX9, 85, "the text does not have this length", 11), (RX9, 94, "the text has an error", 12), (RX9, 138, "what is out of range", 13), (RX9, 349, "there is no such reviewer", 14), (RX9, 351, "there is no such proposal", 15), (RX9, 156, "the reviewer has a review of the proposal", 16), (RX9, 171, "the reviewer does not fit the proposal", 17), (RX9, 182, "there is no room for this review", 18), (RX9, 353, "there is no such review", 19), (RX9, 347, "there is no such panel", 20), (RX9, 207, "the proposal has no reviewer with this index", 21), (RX9, 225, "the score is out of range", 22), (RX9, 355, "there is no such review with a score", 23), (RX9, 357, "the proposal is not ranked", 24), (RX9, 254, "the reviewer has given no score", 25), (RX9, 265, "the proposal has fewer than 2 scores", 26), (RX9, 277, "no proposal has this rank", 27), (RX9, 279, "both proposals are the same", 28), (RX9, 285, "the line is out of range", 29), (RX9, 359, "the mode is out of range", 30), (RX9, 321, "the number is out of range", 31), (RX9, 333, "there is no appeal against this score", 32), (RX9, 342, "there is no change to undo", 33)]
def nestW : List (String × Nat × MethodName × String) := [(RX7, 43, yX9_cell, "GrantAllocation"), (RX4, 78, yX9_fits, "GrantAllocation"), (RX4, 82, yX9_cell, "GrantAllocation"), (RX9, 9, yX8_init, "GrantAllocation"), (RX9, 18, yX7_init, "GrantAllocation"), (RX2, 17, yX7_init, "GrantAllocation"), (RX9, 32, yX5_init, "GrantAllocation"), (RX9, 39, yX1_init, "GrantAllocation"), (RX9, 46, yX4_init, "GrantAllocation"), (RX9, 53, yX3_init, "GrantAllocation"), (RX3, 9, yX0_init, "GrantAllocation"), (RX9, 60, yX6_init, "GrantAllocation")]
def dclW : List MethodName := [Bundle.initS "java/lang/RuntimeException", Bundle.initS "java/lang/Exception", Bundle.initS Bundle.tN]
def castW : List String := ["java/lang/IllegalStateException", "java/lang/IllegalArgumentException", "java/lang/IndexOutOfBoundsException", "java/util/NoSuchElementException"]
def ncW : List (String × String) := [("java/lang/IllegalStateException", "java/lang/IndexOutOfBoundsException"), ("java/lang/IllegalArgumentException", "java/lang/IndexOutOfBoundsException"), ("java/lang/IllegalStateException", "java/lang/IllegalArgumentException"), ("java/util/NoSuchElementException", "java/lang/IndexOutOfBoundsException"), ("java/util/NoSuchElementException", "java/lang/IllegalArgumentException"), ("java/lang/IndexOutOfBoundsException", "java/lang/IllegalArgumentException"), ("java/lang/IllegalStateException", "java/util/NoSuchElementException")]
def kd (k : Nat) : Nat := kdL.getD k 99
def ln (k : Nat) : Nat := lnL.getD k 0
theorem kd_lt {k : Nat} (h : kd k ≠ 99) : k < NC := by
  rcases Nat.lt_or_ge k NC with h1 | h1
  · exact h1
  · exact absurd (by unfold kd; rw [List.getD_eq_getElem?_getD, List.getElem?_eq_none (show kdL.length ≤ k from h1)]; rfl) h
def rfd (ci j : Nat) : Bool := (rfL.getD ci []).getD j false
/-- the fields that hold references and may change: GrantAllocation.setup and spareSetup, the four rows of Choices -/
def muf (ci j : Nat) : Bool := (ci == 9 && (j == 7 || j == 8)) || ci == 0
/-- where the other fields lead -/
def rt (k j : Nat) : Nat := (rtL.getD k []).getD j 0
/-- what a world is: the kit's class numbers and slots, the places' addresses, the array classes, the first new address, the String constants' addresses and their byte rows' -/
abbrev Om : Type := va_G × (Nat → Nat) × (Nat → ClassId) × Nat × (Nat → Nat) × (Nat → Nat)
def oD (w : Om) : va_G := w.1
def oa (w : Om) : Nat → Nat := w.2.1
def oc (w : Om) : Nat → ClassId := w.2.2.1
def oB (w : Om) : Nat := w.2.2.2.1
def oA (w : Om) : Nat → Prop := fun q => oB w ≤ q
def oK (w : Om) : Nat → Nat := w.2.2.2.2.1
def oV (w : Om) : Nat → Nat := w.2.2.2.2.2
def oty (w : Om) : List (ClassId × FieldType) := [(oc w 11, .byte), (oc w 12, .int), (oc w 13, .boolean), (oc w 14, .object "GrantAllocation$State"), (oc w 15, .long), (oc w 16, .double)]
def fvj (w : Om) (m : Mem) (k ci j : Nat) : Value := if rfd ci j = true then .ref (oa w (if muf ci j = true then gR m k j else rt k j)) else .int (gI m k j)
def fv (w : Om) (m : Mem) (k ci : Nat) : List Value := (List.range (nfL.getD ci 0)).map (fvj w m k ci)
def en (w : Om) (m : Mem) (k : Nat) : va_E :=
  if kd k ≤ 10 then .inr (kd k, fv w m k (kd k))
  else if kd k = 14 then .inl (oc w 14, ln k, .inr (.inr (.inr (.inr (fun j => some (oa w (rt k j)))))))
  else if kd k = 15 then .inl (oc w 15, ln k, .inr (.inl (gJ m k)))
  else if kd k = 16 then .inl (oc w 16, ln k, .inr (.inr (.inr (.inl (gD m k)))))
  else .inl (oc w (kd k), ln k, .inl (gI m k))
def pw (w : Om) (m : Mem) : va_W := (List.range NC).map (fun k => (oa w k, en w m k))
theorem pw_get {w : Om} {m : Mem} {k : Nat} (hk : k < NC) : (pw w m)[k]? = some (oa w k, en w m k) := by
  simp [pw, hk]
theorem pw_set {w : Om} {m m' : Mem} {k : Nat} (e : va_E) (he : en w m' k = e) (ho : ∀ a, a ≠ k → en w m' a = en w m a) : (pw w m).set k (oa w k, e) = pw w m' := by
  apply List.ext_getElem?
  intro i
  rw [List.getElem?_set]
  by_cases hi : k = i
  · subst hi
    by_cases hl : k < NC
    · simp [pw, hl, he]
    · simp [pw, hl]
  · rw [if_neg hi]
    by_cases hl : i < NC
    · simp [pw, hl, ho i (fun h => hi h.symm)]
    · simp [pw, hl]
/-- the cells at the places -/
def Wp (w : Om) (m : Mem) (H : Heap) : Prop := va_P (oD w) vwCl (pw w m) H ∧ va_D (oA w) (pw w m)
theorem en_obj {w : Om} {m : Mem} {k ci : Nat} (h : kd k = ci) (hc : ci ≤ 10) : en w m k = .inr (ci, fv w m k ci) := by
  subst h
  unfold en
  rw [if_pos hc]
theorem en_int {w : Om} {m : Mem} {k ci : Nat} (h : kd k = ci) (h1 : 10 < ci) (h2 : ci < 14) : en w m k = .inl (oc w ci, ln k, .inl (gI m k)) := by
  subst h
  unfold en
  rw [if_neg (by omega), if_neg (by omega), if_neg (by omega), if_neg (by omega)]
theorem en_ref {w : Om} {m : Mem} {k : Nat} (h : kd k = 14) : en w m k = .inl (oc w 14, ln k, .inr (.inr (.inr (.inr (fun j => some (oa w (rt k j))))))) := by
  unfold en
  rw [if_neg (by omega), if_pos h]
theorem en_long {w : Om} {m : Mem} {k : Nat} (h : kd k = 15) : en w m k = .inl (oc w 15, ln k, .inr (.inl (gJ m k))) := by
  unfold en
  rw [if_neg (by omega), if_neg (by omega), if_pos h]
theorem en_dbl {w : Om} {m : Mem} {k : Nat} (h : kd k = 16) : en w m k = .inl (oc w 16, ln k, .inr (.inr (.inr (.inl (gD m k))))) := by
  unfold en
  rw [if_neg (by omega), if_neg (by omega), if_neg (by omega), if_pos h]
theorem fv_len {w : Om} {m : Mem} {k ci : Nat} : (fv w m k ci).length = nfL.getD ci 0 := by simp [fv]
theorem fv_get {w : Om} {m : Mem} {k ci j N : Nat} (hN : nfL.getD ci 0 = N) (hj : j < N) : (fv w m k ci)[j]? = some (fvj w m k ci j) := by
  subst hN
  unfold fv
  rw [List.getElem?_map, List.getElem?_range hj]
  rfl
theorem fv_set {w : Om} {m m' : Mem} {k ci j : Nat} {v : Value} (hv : fvj w m' k ci j = v) (ho : ∀ b, b ≠ j → fvj w m' k ci b = fvj w m k ci b) : (fv w m k ci).set j v = fv w m' k ci := by
  apply List.ext_getElem?
  intro i
  rw [List.getElem?_set]
  by_cases hi : j = i
  · subst hi
    by_cases hl : j < nfL.getD ci 0
    · rw [if_pos rfl, if_pos (by rw [fv_len]; exact hl), fv_get rfl hl, hv]
    · rw [if_pos rfl, if_neg (by rw [fv_len]; exact hl), List.getElem?_eq_none (by rw [fv_len]; omega)]
  · rw [if_neg hi]
    by_cases hl : i < nfL.getD ci 0
    · rw [fv_get rfl hl, fv_get rfl hl, ho i (fun h => hi h.symm)]
    · rw [List.getElem?_eq_none (by rw [fv_len]; omega), List.getElem?_eq_none (by rw [fv_len]; omega)]
theorem en_sI_ne {w : Om} {m : Mem} {k j : Nat} {v : Int32} {a : Nat} (h : a ≠ k) : en w (sI m k j v) a = en w m a := by
  have h1 : gI (sI m k j v) a = gI m a := by
    funext b
    rw [gI_sI, if_neg (fun q => h q.1)]
  have h3 : ∀ ci, fv w (sI m k j v) a ci = fv w m a ci := by
    intro ci
    unfold fv
    congr 1
    funext b
    unfold fvj
    rw [h1]
    rfl
  unfold en
  rw [h1, h3]
  rfl
theorem en_sR_ne {w : Om} {m : Mem} {k j v a : Nat} (h : a ≠ k) : en w (sR m k j v) a = en w m a := by
  have h1 : gR (sR m k j v) a = gR m a := by
    funext b
    rw [gR_sR, if_neg (fun q => h q.1)]
  have h3 : ∀ ci, fv w (sR m k j v) a ci = fv w m a ci := by
    intro ci
    unfold fv
    congr 1
    funext b
    unfold fvj
    rw [h1]
    rfl
  unfold en
  rw [h3]
  rfl
theorem en_sJ_ne {w : Om} {m : Mem} {k j : Nat} {v : Int64} {a : Nat} (h : a ≠ k) : en w (sJ m k j v) a = en w m a := by
  have h1 : gJ (sJ m k j v) a = gJ m a := by
    funext b
    rw [gJ_sJ, if_neg (fun q => h q.1)]
  unfold en
  rw [h1]
  rfl
theorem en_sD_ne {w : Om} {m : Mem} {k j : Nat} {v : UInt64} {a : Nat} (h : a ≠ k) : en w (sD m k j v) a = en w m a := by
  have h1 : gD (sD m k j v) a = gD m a := by
    funext b
    rw [gD_sD, if_neg (fun q => h q.1)]
  unfold en
  rw [h1]
  rfl
theorem en_cpI_ne {w : Om} {m : Mem} {a sp k dp n : Nat} {q : Nat} (h : q ≠ k) : en w (cpI m a sp k dp n) q = en w m q := by
  have h1 : gI (cpI m a sp k dp n) q = gI m q := by
    funext b
    rw [gI_cpI, if_neg (fun z => h z.1)]
  have h3 : ∀ ci, fv w (cpI m a sp k dp n) q ci = fv w m q ci := by
    intro ci
    unfold fv
    congr 1
    funext b
    unfold fvj
    rw [h1]
    rfl
  unfold en
  rw [h1, h3]
  rfl
/-- what never changes while the law runs: the tables' classes, the nest links, the statics and String constants that are read -/
def sStr (w : Om) (U : State) (H : Heap) : Prop := va_Zq "jdk/internal/util/Preconditions" "SIOOBE_FORMATTER" "Ljava/util/function/BiFunction;" (oA w) U H ∧ ∀ i : Nat, i < nST → va_O "java/lang/String" (oK w i) (oA w) U H ∧ va_OF "java/lang/String" "coder" "B" (.int 0) (oK w i) (oA w) U H ∧ va_OF "java/lang/String" "value" "[B" (.ref (oV w i)) (oK w i) (oA w) U H ∧ va_T .byte (oV w i) (lenST.getD i 0) (fun j => .int ((bytST.getD i []).getD j 0)) (oA w) U H
def Sx (w : Om) (U : State) (H : Heap) : Prop :=
  va_K (oD w) vwCl (oty w) U ∧ (∀ q ∈ nestW, va_Nw (.methodLinkNest q.1 q.2.1 q.2.2.1 q.2.2.2) U) ∧ vx_Zq Bundle.tN "UNASSIGNED_STACK" Bundle.steD (oA w) U H ∧ vx_Zq Bundle.tN "SUPPRESSED_SENTINEL" Bundle.listD (oA w) U H ∧
  (∀ q ∈ strW, vk_R q.1 q.2.1 q.2.2.1 (oK w q.2.2.2) U) ∧ sStr w U H ∧ va_Z "java/lang/String" "COMPACT_STRINGS" "Z" (.int 1) (oA w) U H ∧ oB w ≤ H.size ∧
  (∀ q ∈ dclW, va_Nw (.declares q) U) ∧ (∀ q ∈ castW, va_Nw (.castable q q) U) ∧ ∀ q ∈ ncW, va_Nc q.1 q.2 U
theorem Sx.move {w : Om} {s U : State} {H : Heap} {locs : List Loc} (h : Sx w s s.heap) (hS : va_S (oA w) s.heap H locs) (hU : U.heap = H) (hW : s.WarmedH U.vm) : Sx w U U.heap := by
  obtain ⟨h1, h2, h3, h4, h5, h6, h7, h8, h9, h10, h11⟩ := h
  rw [hU]
  refine ⟨h1.moved hW.alike, fun q hq => va_Nw.warmM hW (h2 q hq), (h3.kept hS.2.1).moved hW.alike, (h4.kept hS.2.1).moved hW.alike, fun q hq => (h5 q hq).warm hW, ⟨(h6.1.kept hS.2.1).moved hW.alike, fun i hi => ?_⟩, (h7.kept hS.2.1).moved hW.alike, Nat.le_trans h8 hS.1, fun q hq => va_Nw.warmD hW (h9 q hq), fun q hq => va_Nw.warmC hW (h10 q hq), fun q hq => (h11 q hq).moved hW.alike⟩
  obtain ⟨a1, a2, a3, a4⟩ := h6.2 i hi
  exact ⟨(a1.kept hS.2.1).moved hW.alike, (a2.kept hS.2.1).moved hW.alike, (a3.kept hS.2.1).moved hW.alike, (a4.kept hS.2.1).moved hW.alike⟩
theorem Sx.call {w : Om} {U : State} {g : JFrame} {mk : MethodId} {a : Array Value} (h : Sx w U U.heap) : Sx w (U.calling g mk a) (U.calling g mk a).heap := by
  have e : (U.calling g mk a).vm = U.vm := rfl
  have hW : U.WarmedH (U.calling g mk a).vm := State.WarmedH.refl U
  exact Sx.move (locs := []) h va_S.rf rfl hW
/-- a contract's start: the cells, and what never changes -/
def Wd (w : Om) (m : Mem) (U : State) : Prop := Wp w m U.heap ∧ Sx w U U.heap
theorem Wd.blind {w : Om} {m : Mem} (av : List Value) : FrameBlind (va_Pc av (Wd w m)) := fun _ _ _ _ q => ⟨q.1, q.2.1, q.2.2.call⟩
/-- the words of all methods: the good ones of the tables -/
def TT : List Cond := lw_tbl.filter goodWord
theorem tt {w : Cond} (i : Nat) (h : lw_tbl[i]? = some w) (hg : goodWord w = true) : w ∈ TT := List.mem_filter.mpr ⟨List.mem_of_getElem? h, hg⟩
theorem tt_good {w : Cond} (h : w ∈ TT) : (w.onTables && w.keeps) = true ∨ ∃ ty, w = .arrayClass ty := good_of_word (List.mem_filter.mp h).2
theorem tt_in {ws : List Cond} {w0 : Cond} (h : ∀ w ∈ ws, w ∈ TT) : GoodIn TT ws := fun w hw => ⟨h w hw, tt_good (h w hw)⟩
