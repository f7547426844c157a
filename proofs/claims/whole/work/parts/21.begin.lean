theorem k_1216 : Cond.classLink RL 8 "GrantAllocation" ∈ TT := tt 119 (by decide +kernel) (by decide +kernel)
theorem k_1217 : Cond.instantiable RX9 9 ∈ TT := tt 120 (by decide +kernel) (by decide +kernel)
theorem k_1218 : Cond.methodLink RL 120 yX9_init ∈ TT := tt 121 (by decide +kernel) (by decide +kernel)
theorem k_1219 : Cond.classLink RL 121 "GrantAllocationModel" ∈ TT := tt 1279 (by decide +kernel) (by decide +kernel)
theorem k_1220 : Cond.instantiable RX10 23 ∈ TT := tt 1280 (by decide +kernel) (by decide +kernel)
theorem k_1221 : Cond.methodLink RL 123 yX10_init ∈ TT := tt 1281 (by decide +kernel) (by decide +kernel)
theorem k_1222 : Cond.arrayClass FieldType.long ∈ TT := tt 1739 (by decide +kernel) (by decide +kernel)
theorem k_1223 : Cond.arrayClass FieldType.double ∈ TT := tt 1740 (by decide +kernel) (by decide +kernel)
/-! THE CLAIM OUT OF ONE WALK OF THE LAW'S BODY. Your part is whole_start (and what it stands on); all else here is the same for every law, but numbers. -/
def R_law : String := "GrantAllocationLaw"
def lw_P (b : Addr) (xs : List Int32) (args : Array Value) (s : State) : Prop := args = #[.ref b] ∧ s.IntsAt b xs ∧ xs.length ≤ 3072 ∧ (Jvm.Cond.and given_1 narrow_1).before args s = true
/-- what a walk over the start with the record d0 says of its end, said of the start itself -/
theorem lw_closed {s t : State} {o : Outcome} {d0 : Drawn} {L : List Loc} {k n : Nat} (hd0 : s.drawn.sameBut d0 lw_cs) (hv : ∃ v, o = .returned v) (hW : (s.setDrawn d0).WarmedH t.vm) (hs : (s.setDrawn d0).sameButNew ({ t with vm := s.vm } : State) L k n) : State.butDraws s t lw_cs (fun t1 => Framed s o t1 L k n) := by
  have h2 : t.drawn = d0 := congrArg State.drawn hs.1
  refine ⟨⟨hv, hW, State.sameButNew.setDrawn hs s.drawn⟩, ?_, by decide⟩
  rw [h2]
  exact hd0
def lw_Q (_ : Array Value) (s : State) (o : Outcome) (t : State) : Prop := o = .returned (some (.int 1)) ∧ State.butDraws s t lw_cs (fun t1 => Framed s o t1 [] 601024 7293034)
def lw_Z (below : List Frame) (a : Array Value) (s : State) : State → Prop := fun t => ∃ o, t.status = .running ∧ Ended t below o ∧ lw_Q a s o t
/-- the law's own end, with 1 on the stack, nothing written that was there before, its room as the claim has it; d0: the record of draws at this point (at the entry s.drawn: begin with 'refine W.base ?_' and 'have hd0 := Drawn.sameBut.refl s.drawn lw_cs') -/
theorem lw_ret {p : Program} {l : Launch} {e : Env} {s : State} {m : MethodId} {below : List Frame} {meth : Method} {c : Code} {b : Nat} {d0 : Drawn} (hd0 : s.drawn.sameBut d0 lw_cs) (hx : p.tables.exec = Jvm.exec) (hb : c.code = code) (hr : meth.sig.returnType = ret) (hlocks : meth.locks = false) {pc : Nat} {H : Heap} {ls : Array Slot} (hdg : decode code pc = .ok (.ireturn, 1)) : W p l e room_1 (s.setDrawn d0) m #[Value.ref b] below meth c H [] 601024 7293034 (lw_Z below #[Value.ref b] s) (F0 m pc ls [.int 1]) := by
  intro T hT X
  obtain ⟨fs, hret, hrun, hended, hW, hframe⟩ := X.leave (v := some (.int 1)) (hlocks := hlocks) (fun h => by rw [hr] at h; cases h)
  have hmeth' : T.vm.method? m = some meth := X.method'
  refine ⟨T.setFrames fs, ?_, .returned (some (.int 1)), hrun, hended, rfl, lw_closed hd0 ⟨_, rfl⟩ hW hframe⟩
  jvm_step X.here [X.here.top, hx, hb, hdg, hmeth', hr, ret, narrow_b1]
  (try refine ⟨rfl, ?_⟩); (try refine ⟨rfl, ?_⟩)
  first | (intro acts; rw [hret _ acts rfl rfl rfl]) | rw [hret _ _ rfl rfl rfl]
  exact Steps.refl _
/-- what holds at the law's entry: the machine, the code, the tables' words (any of lw_tbl by 'hts w (by decide +kernel)'), the script of L ints xs at the cell b, what the Statement gives of the start (any of its parts by flat_of_before) -/
def lw_At (p : Program) (s : State) (m : MethodId) (meth : Method) (c : Code) (b L : Nat) (xs : Nat → Int32) : Prop :=
  p.tables.exec = Jvm.exec ∧ c.code = code ∧ meth.sig.returnType = ret ∧ c.maxLocals = 9 ∧ s.vm.findClass R_law = some m.cls ∧ (∀ w ∈ lw_tbl, w.before #[Value.ref b] s = true) ∧ va_X b L xs s s.heap ∧ b < s.heap.size ∧ meth.locks = false ∧ (Jvm.Cond.and given_1 narrow_1).before #[Value.ref b] s = true
/-! the first memory, and the walk from the law's entry -/
def m0I : List (Nat → Int32) := [(fun _ => 0), (fun j => ([(0), (0), (0), (-1), (0), (0), (0), (0)] : List Int32).getD j 0), (fun _ => 0), (fun _ => 0), (fun _ => 0), (fun _ => 0), (fun _ => 0), (fun _ => 0), (fun _ => 0), (fun _ => 0), (fun _ => 0), (fun _ => 0), (fun _ => 0), (fun _ => 0), (fun _ => 0), (fun _ => 0), (fun _ => 0), (fun _ => 0), (fun _ => 0), (fun _ => 0), (fun _ => 0), (fun _ => 0), (fun _ => 0), (fun _ => 0), (fun _ => 0), (fun _ => 0), (fun _ => 0), (fun _ => 0), (fun _ => 0), (fun _ => 0), (fun _ => 0), (fun _ => 0), (fun _ => 0), (fun _ => 0), (fun _ => 0), (fun _ => 0), (fun _ => 0), (fun _ => 0), (fun _ => 0), (fun _ => 0), (fun _ => 0), (fun _ => 0), (fun _ => 0), (fun _ => 0), (fun _ => 0), (fun _ => 0), (fun _ => 0), (fun _ => 0), (fun _ => 0), (fun _ => 0), (fun _ => 0), (fun _ => 0), (fun _ => 0), (fun _ => 0), (fun _ => 0), (fun _ => 0), (fun _ => 0), (fun _ => 0), (fun _ => 0), (fun _ => 0), (fun _ => 0), (fun j => ([(0), (0), (1), (0), (0), (0)] : List Int32).getD j 0), (fun _ => 0), (fun _ => 0), (fun _ => 0), (fun _ => 0), (fun j => ([(0), (0), (1), (0), (0), (0)] : List Int32).getD j 0), (fun _ => 0), (fun _ => 0), (fun _ => 0), (fun _ => 0), (fun j => ([(0), (0), (0), (0), (0), (0), (0), (0), (0), (0), (0), (0), (0), (0), (2), (20), (0), (0)] : List Int32).getD j 0), (fun _ => 0), (fun _ => 0), (fun _ => 0), (fun _ => 0), (fun _ => 0), (fun _ => 0), (fun _ => 0), (fun _ => 0), (fun _ => 0), (fun _ => 0), (fun _ => 0), (fun j => ([(0), (0), (0), (0), (0), (0), (0), (0), (0), (0), (0), (0), (0), (0), (2), (20), (0), (0)] : List Int32).getD j 0), (fun _ => 0), (fun _ => 0), (fun _ => 0), (fun _ => 0), (fun _ => 0), (fun _ => 0), (fun _ => 0), (fun _ => 0), (fun _ => 0), (fun _ => 0), (fun _ => 0), (fun j => ([(0), (0), (0), (0), (0), (0), (0), (0), (0), (0), (-1), (0), (0), (0), (0), (0), (0), (0), (0), (0), (0), (0), (0)] : List Int32).getD j 0), (upd (upd (fun _ => 0) (3 : Int32).toNatClampNeg (2 : Int32)) (6 : Int32).toNatClampNeg (20 : Int32)), (fun _ => 0), (fun _ => 0), (fun _ => 0), (fun _ => 0), (fun _ => 0), (fun _ => 0), (fun _ => 0), (fun _ => 0), (fun _ => 0), (fun _ => 0), (fun _ => 0), (fun _ => 0), (fun _ => 0)]
def m0R : List (List Nat) := [[0, 0, 0, 0, 0, 0, 0, 71, 83], [], [], [], [], [], [], [], [], [], [], [], [], [], [], [], [], [], [], [], [], [], [], [], [], [], [], [], [], [], [], [], [], [], [], [], [], [], [], [], [], [], [], [], [], [], [], [], [], [], [], [], [], [], [], [], [], [], [], [], [], [62, 63, 0, 64, 65, 0, 0, 0, 0], [], [], [], [], [67, 68, 0, 69, 70, 0, 0, 0, 0], [], [], [], [], [], [], [], [], [], [], [], [], [], [], [], [], [], [], [], [], [], [], [], [], [], [], [], [], [], [], [], [], [], [], [], [], [], [], [], [], [], [], []]
def m0 : Mem := (fun k => m0I.getD k (fun _ => 0), fun k j => (m0R.getD k []).getD j 0, fun _ _ => 0, fun _ _ => 0)
theorem lw_retR {p : Program} {l : Launch} {e : Env} {R : Room} {s : State} {m : MethodId} {below : List Frame} {meth : Method} {c : Code} {b : Nat} {d0 : Drawn} (hd0 : s.drawn.sameBut d0 lw_cs) (hx : p.tables.exec = Jvm.exec) (hb : c.code = code) (hr : meth.sig.returnType = ret) (hlocks : meth.locks = false) {pc : Nat} {H : Heap} {ls : Array Slot} (hdg : decode code pc = .ok (.ireturn, 1)) : W p l e R (s.setDrawn d0) m #[Value.ref b] below meth c H [] 601024 7293034 (lw_Z below #[Value.ref b] s) (F0 m pc ls [.int 1]) := by
  intro T hT X
  obtain ⟨fs, hret, hrun, hended, hW, hframe⟩ := X.leave (v := some (.int 1)) (hlocks := hlocks) (fun h => by rw [hr] at h; cases h)
  have hmeth' : T.vm.method? m = some meth := X.method'
  refine ⟨T.setFrames fs, ?_, .returned (some (.int 1)), hrun, hended, rfl, lw_closed hd0 ⟨_, rfl⟩ hW hframe⟩
  jvm_step X.here [X.here.top, hx, hb, hdg, hmeth', hr, ret, narrow_b1]
  (try refine ⟨rfl, ?_⟩); (try refine ⟨rfl, ?_⟩)
  first | (intro acts; rw [hret _ acts rfl rfl rfl]) | rw [hret _ _ rfl rfl rfl]
  exact Steps.refl _
def adL (q1 : Nat) (q3 : Nat) (q5 : Nat) (q6 : Nat) (u2 : Nat → Nat) (u4 : Nat → Nat) : List Nat := [q1, u2 0, u2 1, u2 2, u2 3, u2 4, u2 5, u2 6, u2 7, u2 8, u2 9, u2 10, u2 11, u2 12, u2 13, u2 14, u2 15, u2 16, u2 17, u2 18, u2 19, u2 20, u2 21, u2 22, u2 23, u2 24, u2 25, u2 26, u2 27, u2 28, u2 29, u2 30, u2 31, u2 32, u2 33, u2 34, u2 35, u2 36, u2 37, u2 38, u2 39, u2 40, u2 41, u2 42, u2 43, u2 44, u2 45, u2 46, u2 47, u2 48, u2 49, u2 50, u2 51, u2 52, u2 53, u2 54, u2 55, u2 56, u2 57, u2 58, u2 59, u2 60, u2 61, u2 62, u2 63, u2 64, u2 65, u2 66, u2 67, u2 68, u2 69, u2 70, u2 71, u2 72, u2 73, u2 74, u2 75, u2 76, u2 77, u2 78, u2 79, u2 80, u2 81, u2 82, u2 83, u2 84, u2 85, u2 86, u2 87, u2 88, u2 89, u2 90, u2 91, u2 92, u2 93, q3, u4 0, u4 1, u4 2, u4 3, u4 4, u4 5, u4 6, u4 7, u4 8, u4 9, u4 10, u4 11, q5, q6]
def wAt (w : Om) (l9 : List Nat) : Om := (oD w, fun k => l9.getD k 0, oc w, oB w, oK w, oV w)
theorem vp_q {cA : ClassId} {n : Nat} {f g : Nat → Option Nat} (h : ∀ j, j < n → f j = g j) : vp_cell cA (n, .inr (.inr (.inr (.inr f)))) = vp_cell cA (n, .inr (.inr (.inr (.inr g)))) := by
  show arrV cA n (fun j => va_rf (f j)) = arrV cA n (fun j => va_rf (g j))
  unfold arrV
  congr 1
  apply Array.ext
  · simp
  · intro i h1 h2
    simp only [Array.getElem_ofFn]
    rw [h i (by simpa using h1)]
set_option maxRecDepth 100000 in
set_option maxHeartbeats 16000000 in
/-- the cells that the constructors made, as the first memory -/
theorem wp_first (w : Om) (q1 : Nat) (q3 : Nat) (q5 : Nat) (q6 : Nat) (u2 : Nat → Nat) (u4 : Nat → Nat) (H : Heap) (hP : va_P (oD w) vwCl (([] : va_W) ++ ((ch_X9 w q1 u2 ++ ch_X10 w q3 u4) ++ [(q5, .inl (oc w 15, 1, .inr (.inl (fun _ => 0)))), (q6, .inl (oc w 16, 1, .inr (.inr (.inr (.inl (fun _ => 0))))))])) H) (hD : va_D (oA w) (([] : va_W) ++ ((ch_X9 w q1 u2 ++ ch_X10 w q3 u4) ++ [(q5, .inl (oc w 15, 1, .inr (.inl (fun _ => 0)))), (q6, .inl (oc w 16, 1, .inr (.inr (.inr (.inl (fun _ => 0))))))]))) : Wp (wAt w (adL q1 q3 q5 q6 u2 u4)) m0 H := by
  have hP1 := hP.sub [0, 1, 2, 3, 4, 5, 6, 7, 8, 9, 10, 11, 12, 13, 14, 15, 16, 17, 18, 19, 20, 21, 22, 23, 24, 25, 26, 27, 28, 29, 30, 31, 32, 33, 34, 35, 36, 37, 38, 39, 40, 41, 42, 43, 44, 45, 46, 47, 48, 49, 50, 51, 52, 53, 54, 55, 56, 57, 58, 59, 60, 61, 62, 63, 64, 65, 66, 67, 68, 69, 70, 71, 72, 73, 74, 75, 76, 77, 78, 79, 80, 81, 82, 83, 84, 85, 86, 87, 88, 89, 90, 91, 92, 93, 94, 95, 96, 97, 98, 99, 100, 101, 102, 103, 104, 105, 106, 107, 108, 109] rfl
  have hD1 := hD.sub (ws' := [0, 1, 2, 3, 4, 5, 6, 7, 8, 9, 10, 11, 12, 13, 14, 15, 16, 17, 18, 19, 20, 21, 22, 23, 24, 25, 26, 27, 28, 29, 30, 31, 32, 33, 34, 35, 36, 37, 38, 39, 40, 41, 42, 43, 44, 45, 46, 47, 48, 49, 50, 51, 52, 53, 54, 55, 56, 57, 58, 59, 60, 61, 62, 63, 64, 65, 66, 67, 68, 69, 70, 71, 72, 73, 74, 75, 76, 77, 78, 79, 80, 81, 82, 83, 84, 85, 86, 87, 88, 89, 90, 91, 92, 93, 94, 95, 96, 97, 98, 99, 100, 101, 102, 103, 104, 105, 106, 107, 108, 109].filterMap (fun i => (([] : va_W) ++ ((ch_X9 w q1 u2 ++ ch_X10 w q3 u4) ++ [(q5, .inl (oc w 15, 1, .inr (.inl (fun _ => 0)))), (q6, .inl (oc w 16, 1, .inr (.inr (.inr (.inl (fun _ => 0))))))]))[i]?)) [0, 1, 2, 3, 4, 5, 6, 7, 8, 9, 10, 11, 12, 13, 14, 15, 16, 17, 18, 19, 20, 21, 22, 23, 24, 25, 26, 27, 28, 29, 30, 31, 32, 33, 34, 35, 36, 37, 38, 39, 40, 41, 42, 43, 44, 45, 46, 47, 48, 49, 50, 51, 52, 53, 54, 55, 56, 57, 58, 59, 60, 61, 62, 63, 64, 65, 66, 67, 68, 69, 70, 71, 72, 73, 74, 75, 76, 77, 78, 79, 80, 81, 82, 83, 84, 85, 86, 87, 88, 89, 90, 91, 92, 93, 94, 95, 96, 97, 98, 99, 100, 101, 102, 103, 104, 105, 106, 107, 108, 109] (by decide) rfl
  have e7 : ∃ f : Nat → Option Nat, ([0, 1, 2, 3, 4, 5, 6, 7, 8, 9, 10, 11, 12, 13, 14, 15, 16, 17, 18, 19, 20, 21, 22, 23, 24, 25, 26, 27, 28, 29, 30, 31, 32, 33, 34, 35, 36, 37, 38, 39, 40, 41, 42, 43, 44, 45, 46, 47, 48, 49, 50, 51, 52, 53, 54, 55, 56, 57, 58, 59, 60, 61, 62, 63, 64, 65, 66, 67, 68, 69, 70, 71, 72, 73, 74, 75, 76, 77, 78, 79, 80, 81, 82, 83, 84, 85, 86, 87, 88, 89, 90, 91, 92, 93, 94, 95, 96, 97, 98, 99, 100, 101, 102, 103, 104, 105, 106, 107, 108, 109].filterMap (fun i => (([] : va_W) ++ ((ch_X9 w q1 u2 ++ ch_X10 w q3 u4) ++ [(q5, .inl (oc w 15, 1, .inr (.inl (fun _ => 0)))), (q6, .inl (oc w 16, 1, .inr (.inr (.inr (.inl (fun _ => 0))))))]))[i]?))[7]? = some (u2 6, .inl (oc w 14, 10, .inr (.inr (.inr (.inr f))))) ∧ ∀ j, j < 10 → f j = some ((adL q1 q3 q5 q6 u2 u4).getD (rt 7 j) 0) := by
    refine ⟨_, rfl, fun j hj => ?_⟩
    match j, hj with
    | 0, _ => rfl
    | 1, _ => rfl
    | 2, _ => rfl
    | 3, _ => rfl
    | 4, _ => rfl
    | 5, _ => rfl
    | 6, _ => rfl
    | 7, _ => rfl
    | 8, _ => rfl
    | 9, _ => rfl
    | j + 10, hj => omega
  obtain ⟨f, h7, hf⟩ := e7
  have hat := hP1 7 _ h7
  have hP2 := hP1.set (e := .inl (oc w 14, 10, .inr (.inr (.inr (.inr (fun j => some ((adL q1 q3 q5 q6 u2 u4).getD (rt 7 j) 0))))))) hD1 h7 (show H[_]? = some (vp_cell (oc w 14) _) by
    rw [← vp_q hf]
    exact hat) (fun _ _ => rfl)
  have hD2 := hD1.set (e := .inl (oc w 14, 10, .inr (.inr (.inr (.inr (fun j => some ((adL q1 q3 q5 q6 u2 u4).getD (rt 7 j) 0))))))) h7
  have he : ([0, 1, 2, 3, 4, 5, 6, 7, 8, 9, 10, 11, 12, 13, 14, 15, 16, 17, 18, 19, 20, 21, 22, 23, 24, 25, 26, 27, 28, 29, 30, 31, 32, 33, 34, 35, 36, 37, 38, 39, 40, 41, 42, 43, 44, 45, 46, 47, 48, 49, 50, 51, 52, 53, 54, 55, 56, 57, 58, 59, 60, 61, 62, 63, 64, 65, 66, 67, 68, 69, 70, 71, 72, 73, 74, 75, 76, 77, 78, 79, 80, 81, 82, 83, 84, 85, 86, 87, 88, 89, 90, 91, 92, 93, 94, 95, 96, 97, 98, 99, 100, 101, 102, 103, 104, 105, 106, 107, 108, 109].filterMap (fun i => (([] : va_W) ++ ((ch_X9 w q1 u2 ++ ch_X10 w q3 u4) ++ [(q5, .inl (oc w 15, 1, .inr (.inl (fun _ => 0)))), (q6, .inl (oc w 16, 1, .inr (.inr (.inr (.inl (fun _ => 0))))))]))[i]?)).set 7 (u2 6, .inl (oc w 14, 10, .inr (.inr (.inr (.inr (fun j => some ((adL q1 q3 q5 q6 u2 u4).getD (rt 7 j) 0))))))) = pw (wAt w (adL q1 q3 q5 q6 u2 u4)) m0 := rfl
  rw [he] at hP2 hD2
  exact ⟨hP2, hD2⟩
theorem l_tr {l : Launch} (h : l.flags = flags0) : l.stackTraces = false := by
  unfold Launch.stackTraces
  rw [h]
  decide +kernel
set_option maxRecDepth 100000 in
set_option maxHeartbeats 16000000 in
/-- the walk, if the law's function comes to an end -/
theorem law_start {p : Program} {e : Env} {s : State} {m : MethodId} {below : List Frame} {meth : Method} {c : Code} (l : Launch) (hflags : l.flags = flags0) {b L : Nat} {xs : Nat → Int32} (C0 : lw_At p s m meth c b L xs) (N : Nat) (o : Mem) (hrun : L_L_law N L xs 600 0 m0 = some o) : W p l e room_1 s m #[Value.ref b] below meth c s.heap [] 0 0 (lw_Z below #[Value.ref b] s) (entryFrame m ([Value.ref b] : List Value).toArray 9) := by
  obtain ⟨hx, hb, hr, hml, hown0, hts, hX, hbl, hlocks, hgv⟩ := C0
  obtain ⟨D, oc9, oK9, oV9, hSx⟩ := sx_start b s hts (flat_of_before _ hgv)
  have hst := l_tr hflags
  have hT : ∀ w ∈ TT, w.before #[Value.ref b] s = true := fun w hw => hts w (List.mem_filter.mp hw).1
  have hO : va_AO "GrantAllocation$State" s := va_AO.of (hts _ (List.mem_of_getElem? (i := 191) (by decide +kernel)))
  refine W_room (R' := rmC 14 520 600000 3600000) (by decide) (by decide) (by decide) (by decide) ?_
  rw [lg_entry_eq]
  obtain ⟨w, hw⟩ : ∃ w : Om, w = (D, (fun _ => 0), oc9, s.heap.size, oK9, oV9) := ⟨_, rfl⟩
  have hSw : Sx w s s.heap := by rw [hw]; exact hSx _
  have hBw : oB w = s.heap.size := by rw [hw]; rfl
  have key : ∀ Γ : Gc, Γ = (p, l, e, rmC 14 520 600000 3600000, s, m, #[Value.ref b], below, meth, c, w, lw_Z below #[Value.ref b] s) → GK Γ 9 0 0 [] [] 0 [(0, .ref b)] [] := by
    intro Γ hΓ
    have C : Cx Γ cL_law 9 RL (rmC 14 520 600000 3600000) := by subst hΓ; exact ⟨⟨hx, hb, hml, hown0, hT⟩, hSw, hlocks, rfl, hst⟩
    have hA : ∀ q, (gs Γ).heap.size ≤ q → oA (gw Γ) q := by subst hΓ; intro q hq; show oB w ≤ q; rw [hBw]; exact hq
    have hO : va_AO "GrantAllocation$State" (gs Γ) := by subst hΓ; exact hO
    refine k_new (ci := 9) (fs := [.null, .null, .null, .null, .null, .null, .null, .null, .null]) C hA dL_law_0 rfl inT_X9 tyX9 tyX9_ok k_1216 k_1217 k_87 (by decide) (by decide) (by decide) (fun q1 => ?_)
    refine k_dup C dL_law_3 rfl ?_
    refine k_init (h := q1) (st := [.ref q1]) (c9 := 1) (s9 := 9) (Xp := ([] : va_W)) C hO dL_law_4 mfi_X9_init k_1218 ⟨by decide, by decide⟩ (Nat.le_of_ble_eq_true rfl) ⟨by decide, by decide⟩ (kc_X9 _ C.2.2.2.2 (gw Γ)) (fun u2 => ?_)
    refine k_astore_n (lv' := [(1, .ref q1), (0, .ref b)]) C dL_law_7 rfl (by decide) rfl ?_
    refine k_new (ci := 10) (fs := [.int 0, .null, .null, .null, .null, .int 0, .null, .int 0, .int 0, .int 0, .int 0, .int 0, .null, .null, .null, .int 0, .int 0, .null, .null, .int 0, .null, .null, .int 0]) C hA dL_law_8 rfl inT_X10 tyX10 tyX10_ok k_1219 k_1220 k_509 (by decide) (by decide) (by decide) (fun q3 => ?_)
    refine k_dup C dL_law_11 rfl ?_
    refine k_init (h := q3) (st := [.ref q3]) (c9 := 96) (s9 := 6173) (Xp := ch_X9 (gw Γ) q1 u2) C hO dL_law_12 mfi_X10_init k_1221 ⟨by decide, by decide⟩ (Nat.le_of_ble_eq_true rfl) ⟨by decide, by decide⟩ (kc_X10 _ C.2.2.2.2 (gw Γ)) (fun u4 => ?_)
    refine k_astore_n (lv' := [(2, .ref q3), (1, .ref q1), (0, .ref b)]) C dL_law_15 rfl (by decide) rfl ?_
    refine k_iconst (v := (1 : Int32)) C dL_law_16 (by decide) ?_
    refine k_newa_J (N := 1) C hA dL_law_17 k_1222 (by decide) (by decide) (by decide) (by decide) (by decide) (fun q5 => ?_)
    refine k_astore_n (lv' := [(3, .ref q5), (2, .ref q3), (1, .ref q1), (0, .ref b)]) C dL_law_19 rfl (by decide) rfl ?_
    refine k_iconst (v := (1 : Int32)) C dL_law_20 (by decide) ?_
    refine k_newa_D (N := 1) C hA dL_law_21 k_1223 (by decide) (by decide) (by decide) (by decide) (by decide) (fun q6 => ?_)
    refine k_astore (lv' := [(4, .ref q6), (3, .ref q5), (2, .ref q3), (1, .ref q1), (0, .ref b)]) C dL_law_23 (by decide) rfl ?_
    refine k_iconst (v := (0 : Int32)) C dL_law_25 (by decide) ?_
    refine k_istore (lv' := [(5, .int (0 : Int32)), (4, .ref q6), (3, .ref q5), (2, .ref q3), (1, .ref q1), (0, .ref b)]) C dL_law_26 (by decide) rfl ?_
    intro H locs ls hl hP hD hS
    have hWp := wp_first (gw Γ) q1 q3 q5 q6 u2 u4 H hP hD
    have hsx : ∀ l9 : List Nat, Sx (wAt w l9) s s.heap := fun l9 => by rw [hw]; exact hSx _
    subst hΓ
    refine W.widen (k := 2000) (n := 6 * 2000) (by decide) (by decide) ?_
    have hE : ∀ cs, cs ≤ 600000 → G (p, l, e, rmK 14 520 600000, s, m, #[Value.ref b], below, meth, c, wAt w (adL q1 q3 q5 q6 u2 u4), lw_Z below #[Value.ref b] s) 9 cs o 2287 [] [] := by
      intro cs hcs H locs ls hl hw9 hS9
      refine lv_iconst (v := 1) hx hb dL_law_2287 (by decide) ?_
      refine va_forget (fun q hq => by have h9 := hS9.2.2 q hq; show s.heap.size ≤ _; rw [← hBw]; exact h9) ?_
      refine W.widen (k := 601024) (n := 7293034) (by omega) (by omega) ?_
      exact lw_retR (Drawn.sameBut.refl s.drawn lw_cs) hx hb hr hlocks dL_law_2288
    exact lt_L_law N (p, l, e, rmK 14 520 600000, s, m, #[Value.ref b], below, meth, c, wAt w (adL q1 q3 q5 q6 u2 u4), lw_Z below #[Value.ref b] s) ⟨⟨hx, hb, hml, hown0, hT⟩, hsx _, hlocks, rfl, hst⟩ b L xs ⟨hX, hbl, fun h9 => absurd (show oB w ≤ b from h9) (by rw [hBw]; omega)⟩ o hE 600 2000 0 m0 (by decide) hrun H locs ls (lv_sub hl [5, 4, 3, 2, 1, 0] rfl) hWp hS
  exact key _ rfl s.heap [] _ (lv_entry [Value.ref b] (Nat.le_of_ble_eq_true rfl)) (fun k q h => by simp at h) ⟨fun i j p q h => by simp at h, fun k q h => by simp at h⟩ va_S.rf
