/-! THE LAW out of its calls -/
def Op_append (N : Nat) : Prop := ∀ m, Rel m → ∀ a b c d e : Int32, OpI (f_L_append N a b c d e) (f_X10_append N a b c d e) m
def Op_truncate (N : Nat) : Prop := ∀ m, Rel m → ∀ a : Int32, OpI (f_L_truncate N a) (f_X10_truncate N a) m
def Op_load (N : Nat) : Prop := ∀ m, Rel m → OpI (f_L_load N ) (f_X10_load N ) m
def Op_errorCode (N : Nat) : Prop := ∀ m, Rel m → OpE (f_X9_errorCode N ) (f_X10_errorCode N ) m
def Op_errorPosition (N : Nat) : Prop := ∀ m, Rel m → OpE (f_X9_errorPosition N ) (f_X10_errorPosition N ) m
def Op_count (N : Nat) : Prop := ∀ m, Rel m → ∀ a : Int32, OpI (f_L_count N a) (f_X10_count N a) m
def Op_isConflict (N : Nat) : Prop := ∀ m, Rel m → ∀ a b : Int32, OpZ (f_L_isConflict N a b) (f_X10_isConflict N a b) m
def Op_match (N : Nat) : Prop := ∀ m, Rel m → ∀ a b : Int32, OpI (f_L_match N a b) (f_X10_match N a b) m
def Op_declare (N : Nat) : Prop := ∀ m, Rel m → ∀ a b : Int32, OpZ (f_L_declare N a b) (f_X10_declare N a b) m
def Op_assign (N : Nat) : Prop := ∀ m, Rel m → ∀ a b : Int32, OpI (f_L_assign N a b) (f_X10_assign N a b) m
def Op_unassign (N : Nat) : Prop := ∀ m, Rel m → ∀ a b : Int32, OpI (f_L_unassign N a b) (f_X10_unassign N a b) m
def Op_assignAll (N : Nat) : Prop := ∀ m, Rel m → ∀ a : Int32, OpI (f_L_assignAll N a) (f_X10_assignAll N a) m
def Op_reviewerOf (N : Nat) : Prop := ∀ m, Rel m → ∀ a b : Int32, OpI (f_L_reviewerOf N a b) (f_X10_reviewerOf N a b) m
def Op_loadOf (N : Nat) : Prop := ∀ m, Rel m → ∀ a : Int32, OpI (f_L_loadOf N a) (f_X10_loadOf N a) m
def Op_matchSum (N : Nat) : Prop := ∀ m, Rel m → ∀ a : Int32, OpI (f_L_matchSum N a) (f_X10_matchSum N a) m
def Op_mostReviews (N : Nat) : Prop := ∀ m, Rel m → ∀ a : Int32, OpI (f_L_mostReviews N a) (f_X10_mostReviews N a) m
def Op_bestMatchSum (N : Nat) : Prop := ∀ m, Rel m → ∀ a : Int32, OpI (f_L_bestMatchSum N a) (f_X10_bestMatchSum N a) m
def Op_setScore (N : Nat) : Prop := ∀ m, Rel m → ∀ a b c : Int32, OpI (f_L_setScore N a b c) (f_X10_setScore N a b c) m
def Op_adjusted (N : Nat) : Prop := ∀ m, Rel m → ∀ a b : Int32, OpI (f_L_adjusted N a b) (f_X10_adjusted N a b) m
def Op_normalized (N : Nat) : Prop := ∀ m, Rel m → ∀ a : Int32, OpI (f_L_normalized N a) (f_X10_normalized N a) m
def Op_leniency (N : Nat) : Prop := ∀ m, Rel m → ∀ a : Int32, OpD (f_L_leniency N a) (f_X10_leniency N a) m
def Op_disagreement (N : Nat) : Prop := ∀ m, Rel m → ∀ a : Int32, OpD (f_L_disagreement N a) (f_X10_disagreement N a) m
def Op_rank (N : Nat) : Prop := ∀ m, Rel m → ∀ a : Int32, OpI (f_L_rank N a) (f_X10_rank N a) m
def Op_ranked (N : Nat) : Prop := ∀ m, Rel m → ∀ a b : Int32, OpI (f_L_ranked N a b) (f_X10_ranked N a b) m
def Op_tieRound (N : Nat) : Prop := ∀ m, Rel m → ∀ a b : Int32, OpI (f_L_tieRound N a b) (f_X10_tieRound N a b) m
def Op_setLine (N : Nat) : Prop := ∀ m, Rel m → ∀ a : Int32, OpI (f_L_setLine N a) (f_X10_setLine N a) m
def Op_amount (N : Nat) : Prop := ∀ m, Rel m → ∀ a b : Int32, OpI (f_L_amount N a b) (f_X10_amount N a b) m
def Op_left (N : Nat) : Prop := ∀ m, Rel m → ∀ a b : Int32, OpI (f_L_left N a b) (f_X10_left N a b) m
def Op_poolLeft (N : Nat) : Prop := ∀ m, Rel m → ∀ a : Int32, OpI (f_L_poolLeft N a) (f_X10_poolLeft N a) m
def Op_funded (N : Nat) : Prop := ∀ m, Rel m → ∀ a : Int32, OpI (f_L_funded N a) (f_X10_funded N a) m
def Op_bestSum (N : Nat) : Prop := ∀ m, Rel m → ∀ a : Int32, OpI (f_L_bestSum N a) (f_X10_bestSum N a) m
def Op_lineFor (N : Nat) : Prop := ∀ m, Rel m → ∀ a b : Int32, OpI (f_L_lineFor N a b) (f_X10_lineFor N a b) m
def Op_appeal (N : Nat) : Prop := ∀ m, Rel m → ∀ a b : Int32, OpZ (f_L_appeal N a b) (f_X10_appeal N a b) m
def Op_undo (N : Nat) : Prop := ∀ m, Rel m → OpI (f_L_undo N ) (f_X10_undo N ) m
theorem sh_I {fl fm : Mem → Option (Int32 × Mem)} {N : Nat} {m : Mem} {rc : Int32 → Mem → Option Mem} {v : Int32} (h : OpI fl fm m) : ∃ m2, Rel m2 ∧ b2 (fl m) (fun r m1 => b2 (fm m1) (fun b m2 => b2 (f_X10_thrown N m2) (fun t m3 => (if t = r then (if r = 0 then (if (lg_cmp (gJ m3 108 0) b.toInt64) = 0 then rc v m3 else none) else rc v m3) else none)))) = rc v m2 := by
  obtain ⟨r, m1, b, m2, h1, h2, h3, h4, h5⟩ := h
  refine ⟨m2, h5, ?_⟩
  rw [b2_of h1, b2_of h2, b2_of (show f_X10_thrown N m2 = some (r, m2) by unfold f_X10_thrown; rw [h3]), if_pos rfl]
  by_cases hr : r = 0
  · rw [if_pos hr, h4 hr, lg_self, if_pos rfl]
  · rw [if_neg hr]
theorem sh_Z {fl fm : Mem → Option (Int32 × Mem)} {N : Nat} {m : Mem} {rc : Int32 → Mem → Option Mem} {v : Int32} (B : Int64 → Int64 → Mem → Option Mem) (hB : ∀ x m, B x x m = rc v m) (h : OpZ fl fm m) : ∃ m2, Rel m2 ∧ b2 (fl m) (fun r m1 => b2 (fm m1) (fun b m2 => b2 (f_X10_thrown N m2) (fun t m3 => (if t = r then (if r = 0 then (if b = 0 then B (0 : Int64) (gJ m3 108 0) m3 else B (1 : Int64) (gJ m3 108 0) m3) else rc v m3) else none)))) = rc v m2 := by
  obtain ⟨r, m1, b, m2, h1, h2, h3, h4, h5⟩ := h
  refine ⟨m2, h5, ?_⟩
  rw [b2_of h1, b2_of h2, b2_of (show f_X10_thrown N m2 = some (r, m2) by unfold f_X10_thrown; rw [h3]), if_pos rfl]
  by_cases hr : r = 0
  · rw [if_pos hr, h4 hr]
    by_cases hb : b = 0
    · rw [if_pos hb, if_pos hb, hB]
    · rw [if_neg hb, if_neg hb, hB]
  · rw [if_neg hr]
theorem sh_D {fl : Mem → Option (Int32 × Mem)} {fm : Mem → Option (UInt64 × Mem)} {N : Nat} {m : Mem} {rc : Int32 → Mem → Option Mem} {v : Int32} (h : OpD fl fm m) : ∃ m2, Rel m2 ∧ b2 (fl m) (fun r m1 => b2 (fm m1) (fun b m2 => b2 (f_X10_thrown N m2) (fun t m3 => (if t = r then (if r = 0 then (if (Op.cmpValue (FP.dcmp (gD m3 109 0) b) .l) = 0 then rc v m3 else (if (Op.cmpValue (FP.dcmp (gD m3 109 0) (gD m3 109 0)) .l) = 0 then none else (if (Op.cmpValue (FP.dcmp b b) .l) = 0 then none else rc v m3))) else rc v m3) else none)))) = rc v m2 := by
  obtain ⟨r, m1, b, m2, h1, h2, h3, h4, h5⟩ := h
  refine ⟨m2, h5, ?_⟩
  rw [b2_of h1, b2_of h2, b2_of (show f_X10_thrown N m2 = some (r, m2) by unfold f_X10_thrown; rw [h3]), if_pos rfl]
  by_cases hr : r = 0
  · rw [if_pos hr, h4 hr, if_pos rfl]
  · rw [if_neg hr]
theorem sh_E {fl fm : Mem → Option (Int32 × Mem)} {m : Mem} {rc : Int32 → Mem → Option Mem} {v : Int32} (h : OpE fl fm m) : ∃ m2, Rel m2 ∧ b2 (fl m) (fun r m1 => b2 (fm m1) (fun b m2 => (if r = b then rc v m2 else none))) = rc v m2 := by
  obtain ⟨r, m1, m2, h1, h2, h5⟩ := h
  exact ⟨m2, h5, by rw [b2_of h1, b2_of h2, if_pos rfl]⟩
def Ops (N : Nat) : Prop := Op_append N ∧ Op_truncate N ∧ Op_load N ∧ Op_errorCode N ∧ Op_errorPosition N ∧ Op_count N ∧ Op_isConflict N ∧ Op_match N ∧ Op_declare N ∧ Op_assign N ∧ Op_unassign N ∧ Op_assignAll N ∧ Op_reviewerOf N ∧ Op_loadOf N ∧ Op_matchSum N ∧ Op_mostReviews N ∧ Op_bestMatchSum N ∧ Op_setScore N ∧ Op_adjusted N ∧ Op_normalized N ∧ Op_leniency N ∧ Op_disagreement N ∧ Op_rank N ∧ Op_ranked N ∧ Op_tieRound N ∧ Op_setLine N ∧ Op_amount N ∧ Op_left N ∧ Op_poolLeft N ∧ Op_funded N ∧ Op_bestSum N ∧ Op_lineFor N ∧ Op_appeal N ∧ Op_undo N
set_option maxHeartbeats 4000000 in
set_option maxRecDepth 10000 in
theorem law_step {N L : Nat} {xs : Nat → Int32} (O : Ops N) (rc : Int32 → Mem → Option Mem) (v5 : Int32) (m : Mem) (hR : Rel m) (hx : ¬ ((Int32.ofNat L) - (6 : Int32)) < v5) (g0 : inb v5 L = true) (g1 : inb (v5 + (1 : Int32)) L = true) (g2 : inb (v5 + (2 : Int32)) L = true) (g3 : inb (v5 + (3 : Int32)) L = true) (g4 : inb (v5 + (4 : Int32)) L = true) (g5 : inb (v5 + (5 : Int32)) L = true) : ∃ m2, Rel m2 ∧ T_L_law N L xs rc v5 m = rc (v5 + (6 : Int32)) m2 := by
  obtain ⟨o0, o1, o2, o3, o4, o5, o6, o7, o8, o9, o10, o11, o12, o13, o14, o15, o16, o17, o18, o19, o20, o21, o22, o23, o24, o25, o26, o27, o28, o29, o30, o31, o32, o33⟩ := O
  unfold T_L_law
  rw [if_neg hx, gd_t g0]
  by_cases h0 : xs v5.toNatClampNeg &&& (63 : Int32) = (0 : Int32)
  · rw [if_pos h0, gd_t g1, gd_t g2, gd_t g3, gd_t g4, gd_t g5]
    exact sh_I (o0 m hR (xs (v5 + (1 : Int32)).toNatClampNeg) (xs (v5 + (2 : Int32)).toNatClampNeg) (xs (v5 + (3 : Int32)).toNatClampNeg) (xs (v5 + (4 : Int32)).toNatClampNeg) (xs (v5 + (5 : Int32)).toNatClampNeg))
  rw [if_neg h0]
  by_cases h1 : xs v5.toNatClampNeg &&& (63 : Int32) = (1 : Int32)
  · rw [if_pos h1, gd_t g1]
    exact sh_I (o1 m hR (xs (v5 + (1 : Int32)).toNatClampNeg))
  rw [if_neg h1]
  by_cases h2 : xs v5.toNatClampNeg &&& (63 : Int32) = (2 : Int32)
  · rw [if_pos h2]
    exact sh_I (o2 m hR )
  rw [if_neg h2]
  by_cases h3 : xs v5.toNatClampNeg &&& (63 : Int32) = (3 : Int32)
  · rw [if_pos h3]
    exact sh_E (o3 m hR )
  rw [if_neg h3]
  by_cases h4 : xs v5.toNatClampNeg &&& (63 : Int32) = (4 : Int32)
  · rw [if_pos h4]
    exact sh_E (o4 m hR )
  rw [if_neg h4]
  by_cases h5 : xs v5.toNatClampNeg &&& (63 : Int32) = (5 : Int32)
  · rw [if_pos h5, gd_t g1]
    exact sh_I (o5 m hR (xs (v5 + (1 : Int32)).toNatClampNeg))
  rw [if_neg h5]
  by_cases h6 : xs v5.toNatClampNeg &&& (63 : Int32) = (6 : Int32)
  · rw [if_pos h6, gd_t g1, gd_t g2]
    exact sh_Z (fun x y m => B_L_law_548 N L xs rc v5 x y m) (fun x m => by show B_L_law_548 N L xs rc v5 x x m = _; unfold B_L_law_548; rw [lg_self, if_pos rfl]) (o6 m hR (xs (v5 + (1 : Int32)).toNatClampNeg) (xs (v5 + (2 : Int32)).toNatClampNeg))
  rw [if_neg h6]
  by_cases h7 : xs v5.toNatClampNeg &&& (63 : Int32) = (7 : Int32)
  · rw [if_pos h7, gd_t g1, gd_t g2]
    exact sh_I (o7 m hR (xs (v5 + (1 : Int32)).toNatClampNeg) (xs (v5 + (2 : Int32)).toNatClampNeg))
  rw [if_neg h7]
  by_cases h8 : xs v5.toNatClampNeg &&& (63 : Int32) = (8 : Int32)
  · rw [if_pos h8, gd_t g1, gd_t g2]
    exact sh_Z (fun x y m => B_L_law_691 N L xs rc v5 x y m) (fun x m => by show B_L_law_691 N L xs rc v5 x x m = _; unfold B_L_law_691; rw [lg_self, if_pos rfl]) (o8 m hR (xs (v5 + (1 : Int32)).toNatClampNeg) (xs (v5 + (2 : Int32)).toNatClampNeg))
  rw [if_neg h8]
  by_cases h9 : xs v5.toNatClampNeg &&& (63 : Int32) = (9 : Int32)
  · rw [if_pos h9, gd_t g1, gd_t g2]
    exact sh_I (o9 m hR (xs (v5 + (1 : Int32)).toNatClampNeg) (xs (v5 + (2 : Int32)).toNatClampNeg))
  rw [if_neg h9]
  by_cases h10 : xs v5.toNatClampNeg &&& (63 : Int32) = (10 : Int32)
  · rw [if_pos h10, gd_t g1, gd_t g2]
    exact sh_I (o10 m hR (xs (v5 + (1 : Int32)).toNatClampNeg) (xs (v5 + (2 : Int32)).toNatClampNeg))
  rw [if_neg h10]
  by_cases h11 : xs v5.toNatClampNeg &&& (63 : Int32) = (11 : Int32)
  · rw [if_pos h11, gd_t g1]
    exact sh_I (o11 m hR (xs (v5 + (1 : Int32)).toNatClampNeg))
  rw [if_neg h11]
  by_cases h12 : xs v5.toNatClampNeg &&& (63 : Int32) = (12 : Int32)
  · rw [if_pos h12, gd_t g1, gd_t g2]
    exact sh_I (o12 m hR (xs (v5 + (1 : Int32)).toNatClampNeg) (xs (v5 + (2 : Int32)).toNatClampNeg))
  rw [if_neg h12]
  by_cases h13 : xs v5.toNatClampNeg &&& (63 : Int32) = (13 : Int32)
  · rw [if_pos h13, gd_t g1]
    exact sh_I (o13 m hR (xs (v5 + (1 : Int32)).toNatClampNeg))
  rw [if_neg h13]
  by_cases h14 : xs v5.toNatClampNeg &&& (63 : Int32) = (14 : Int32)
  · rw [if_pos h14, gd_t g1]
    exact sh_I (o14 m hR (xs (v5 + (1 : Int32)).toNatClampNeg))
  rw [if_neg h14]
  by_cases h15 : xs v5.toNatClampNeg &&& (63 : Int32) = (15 : Int32)
  · rw [if_pos h15, gd_t g1]
    exact sh_I (o15 m hR (xs (v5 + (1 : Int32)).toNatClampNeg))
  rw [if_neg h15]
  by_cases h16 : xs v5.toNatClampNeg &&& (63 : Int32) = (16 : Int32)
  · rw [if_pos h16, gd_t g1]
    exact sh_I (o16 m hR (xs (v5 + (1 : Int32)).toNatClampNeg))
  rw [if_neg h16]
  by_cases h17 : xs v5.toNatClampNeg &&& (63 : Int32) = (17 : Int32)
  · rw [if_pos h17, gd_t g1, gd_t g2, gd_t g3]
    exact sh_I (o17 m hR (xs (v5 + (1 : Int32)).toNatClampNeg) (xs (v5 + (2 : Int32)).toNatClampNeg) (xs (v5 + (3 : Int32)).toNatClampNeg))
  rw [if_neg h17]
  by_cases h18 : xs v5.toNatClampNeg &&& (63 : Int32) = (18 : Int32)
  · rw [if_pos h18, gd_t g1, gd_t g2]
    exact sh_I (o18 m hR (xs (v5 + (1 : Int32)).toNatClampNeg) (xs (v5 + (2 : Int32)).toNatClampNeg))
  rw [if_neg h18]
  by_cases h19 : xs v5.toNatClampNeg &&& (63 : Int32) = (19 : Int32)
  · rw [if_pos h19, gd_t g1]
    exact sh_I (o19 m hR (xs (v5 + (1 : Int32)).toNatClampNeg))
  rw [if_neg h19]
  by_cases h20 : xs v5.toNatClampNeg &&& (63 : Int32) = (20 : Int32)
  · rw [if_pos h20, gd_t g1]
    exact sh_D (o20 m hR (xs (v5 + (1 : Int32)).toNatClampNeg))
  rw [if_neg h20]
  by_cases h21 : xs v5.toNatClampNeg &&& (63 : Int32) = (21 : Int32)
  · rw [if_pos h21, gd_t g1]
    exact sh_D (o21 m hR (xs (v5 + (1 : Int32)).toNatClampNeg))
  rw [if_neg h21]
  by_cases h22 : xs v5.toNatClampNeg &&& (63 : Int32) = (22 : Int32)
  · rw [if_pos h22, gd_t g1]
    exact sh_I (o22 m hR (xs (v5 + (1 : Int32)).toNatClampNeg))
  rw [if_neg h22]
  by_cases h23 : xs v5.toNatClampNeg &&& (63 : Int32) = (23 : Int32)
  · rw [if_pos h23, gd_t g1, gd_t g2]
    exact sh_I (o23 m hR (xs (v5 + (1 : Int32)).toNatClampNeg) (xs (v5 + (2 : Int32)).toNatClampNeg))
  rw [if_neg h23]
  by_cases h24 : xs v5.toNatClampNeg &&& (63 : Int32) = (24 : Int32)
  · rw [if_pos h24, gd_t g1, gd_t g2]
    exact sh_I (o24 m hR (xs (v5 + (1 : Int32)).toNatClampNeg) (xs (v5 + (2 : Int32)).toNatClampNeg))
  rw [if_neg h24]
  by_cases h25 : xs v5.toNatClampNeg &&& (63 : Int32) = (25 : Int32)
  · rw [if_pos h25, gd_t g1]
    exact sh_I (o25 m hR (xs (v5 + (1 : Int32)).toNatClampNeg))
  rw [if_neg h25]
  by_cases h26 : xs v5.toNatClampNeg &&& (63 : Int32) = (26 : Int32)
  · rw [if_pos h26, gd_t g1, gd_t g2]
    exact sh_I (o26 m hR (xs (v5 + (1 : Int32)).toNatClampNeg) (xs (v5 + (2 : Int32)).toNatClampNeg))
  rw [if_neg h26]
  by_cases h27 : xs v5.toNatClampNeg &&& (63 : Int32) = (27 : Int32)
  · rw [if_pos h27, gd_t g1, gd_t g2]
    exact sh_I (o27 m hR (xs (v5 + (1 : Int32)).toNatClampNeg) (xs (v5 + (2 : Int32)).toNatClampNeg))
  rw [if_neg h27]
  by_cases h28 : xs v5.toNatClampNeg &&& (63 : Int32) = (28 : Int32)
  · rw [if_pos h28, gd_t g1]
    exact sh_I (o28 m hR (xs (v5 + (1 : Int32)).toNatClampNeg))
  rw [if_neg h28]
  by_cases h29 : xs v5.toNatClampNeg &&& (63 : Int32) = (29 : Int32)
  · rw [if_pos h29, gd_t g1]
    exact sh_I (o29 m hR (xs (v5 + (1 : Int32)).toNatClampNeg))
  rw [if_neg h29]
  by_cases h30 : xs v5.toNatClampNeg &&& (63 : Int32) = (30 : Int32)
  · rw [if_pos h30, gd_t g1]
    exact sh_I (o30 m hR (xs (v5 + (1 : Int32)).toNatClampNeg))
  rw [if_neg h30]
  by_cases h31 : xs v5.toNatClampNeg &&& (63 : Int32) = (31 : Int32)
  · rw [if_pos h31, gd_t g1, gd_t g2]
    exact sh_I (o31 m hR (xs (v5 + (1 : Int32)).toNatClampNeg) (xs (v5 + (2 : Int32)).toNatClampNeg))
  rw [if_neg h31]
  by_cases h32 : xs v5.toNatClampNeg &&& (63 : Int32) = (32 : Int32)
  · rw [if_pos h32, gd_t g1, gd_t g2]
    exact sh_Z (fun x y m => B_L_law_2228 N L xs rc v5 x y m) (fun x m => by show B_L_law_2228 N L xs rc v5 x x m = _; unfold B_L_law_2228; rw [lg_self, if_pos rfl]) (o32 m hR (xs (v5 + (1 : Int32)).toNatClampNeg) (xs (v5 + (2 : Int32)).toNatClampNeg))
  rw [if_neg h32]
  by_cases h33 : xs v5.toNatClampNeg &&& (63 : Int32) = (33 : Int32)
  · rw [if_pos h33]
    exact sh_I (o33 m hR )
  rw [if_neg h33]
  exact ⟨m, hR, rfl⟩
theorem law_loop {N L : Nat} {xs : Nat → Int32} (O : Ops N) (hL : L ≤ 3072) : ∀ (n j : Nat) (m : Mem), Rel m → 6 * j ≤ L + 6 → L + 6 < 6 * j + 6 * n → ∃ o, L_L_law N L xs n (nI (6 * j)) m = some o := by
  intro n
  induction n with
  | zero => intro j m hR h1 h2; omega
  | succ n ih =>
    intro j m hR h1 h2
    show ∃ o, T_L_law N L xs (L_L_law N L xs n) (nI (6 * j)) m = some o
    have e1 : (Int32.ofNat L - (6 : Int32)).toInt = (L : Int) - 6 := pk_sub_toInt (a := L) (b := 6) (by omega) (by omega)
    have e2 : (nI (6 * j)).toInt = ((6 * j : Nat) : Int) := nI_toInt (by omega)
    by_cases hx : ((Int32.ofNat L) - (6 : Int32)) < nI (6 * j)
    · refine ⟨m, ?_⟩
      unfold T_L_law
      rw [if_pos hx]
    · have hx' : ¬ ((L : Int) - 6 < ((6 * j : Nat) : Int)) := by
        rw [Int32.lt_iff_toInt_lt, e1, e2] at hx
        exact hx
      have hg : ∀ k : Nat, k < 6 → inb (nI (6 * j) + nI k) L = true := by
        intro k hk
        rw [nI_add]
        exact inb_nI (by omega) (by omega)
      obtain ⟨m2, hR2, he⟩ := law_step O (L_L_law N L xs n) (nI (6 * j)) m hR hx (inb_nI (by omega) (by omega)) (hg 1 (by decide)) (hg 2 (by decide)) (hg 3 (by decide)) (hg 4 (by decide)) (hg 5 (by decide))
      rw [he]
      have e3 : nI (6 * j) + (6 : Int32) = nI (6 * (j + 1)) := by
        rw [show (6 : Int32) = nI 6 from rfl, nI_add]
        rfl
      rw [e3]
      exact ih (j + 1) m2 hR2 (by omega) (by omega)
theorem law_of_ops (O : ∃ N, Ops N) (h0 : Rel m0) (L : Nat) (xs : Nat → Int32) (hL : L ≤ 3072) : ∃ (N : Nat) (o : Mem), L_L_law N L xs 600 0 m0 = some o := by
  obtain ⟨N, O⟩ := O
  obtain ⟨o, h⟩ := law_loop (xs := xs) O hL 600 0 m0 h0 (by omega) (by omega)
  exact ⟨N, o, h⟩
