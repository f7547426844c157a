/-! the functions of the methods, by program out of the bytecode (wip/whole/gen.py) -/
def f_X0_clear (N : Nat) (v0 : Nat) (m : Mem) : Option (Mem) :=
  gd (kd v0 == 0) (gd (okA 12 (gR m v0 0) (0 : Int32)) (wr (sI m (gR m v0 0) 0 (0 : Int32)) (fun m_3 => gd (okA 12 (gR m_3 v0 1) (0 : Int32)) (wr (sI m_3 (gR m_3 v0 1) 0 (0 : Int32)) (fun m_5 => wr (sI m_5 v0 2 (1 : Int32)) (fun m_6 => some (m_6)))))))
def B_X0_keep_27 (N : Nat) (v0 : Nat) (v1 : Int32) (v2 : Int32) (s0 : Int32) (m : Mem) : Option (Mem) :=
  (if s0 = 0 then some (m) else gd (kd v0 == 0) ((if (256 : Int32) ≤ (gI m v0 5) then some (m) else gd (okA 12 (gR m v0 3) (gI m v0 5)) (wr (sI m (gR m v0 3) (gI m v0 5).toNatClampNeg v1) (fun m_4 => gd (okA 12 (gR m_4 v0 4) (gI m_4 v0 5)) (wr (sI m_4 (gR m_4 v0 4) (gI m_4 v0 5).toNatClampNeg v2) (fun m_6 => wr (sI m_6 v0 5 ((gI m_6 v0 5) + (1 : Int32))) (fun m_7 => some (m_7)))))))))
def B_X0_keep_22 (N : Nat) (v0 : Nat) (v1 : Int32) (v2 : Int32) (m : Mem) : Option (Mem) :=
  B_X0_keep_27 N v0 v1 v2 (1 : Int32) m
def f_X0_keep (N : Nat) (v0 : Nat) (v1 : Int32) (v2 : Int32) (m : Mem) : Option (Mem) :=
  gd (kd v0 == 0) ((if (gI m v0 5) = 0 then B_X0_keep_22 N v0 v1 v2 m else gd (okA 12 (gR m v0 4) ((gI m v0 5) - (1 : Int32))) ((if v2 ≤ (gI m (gR m v0 4) ((gI m v0 5) - (1 : Int32)).toNatClampNeg) then B_X0_keep_27 N v0 v1 v2 (0 : Int32) m else B_X0_keep_22 N v0 v1 v2 m))))
def f_X0_swap (N : Nat) (v0 : Nat) (m : Mem) : Option (Mem) :=
  gd (kd v0 == 0) (wr (sR m v0 0 (gR m v0 3)) (fun m_2 => wr (sR m_2 v0 1 (gR m_2 v0 4)) (fun m_3 => wr (sR m_3 v0 3 (gR m v0 0)) (fun m_4 => wr (sR m_4 v0 4 (gR m v0 1)) (fun m_5 => wr (sI m_5 v0 2 (gI m_5 v0 5)) (fun m_6 => some (m_6)))))))
def B_X0_add_59 (N : Nat) (rc : Nat → Int32 → Int32 → Int32 → Int32 → Int32 → Mem → Option (Nat × Mem)) (v0 : Nat) (v1 : Int32) (v2 : Int32) (v3 : Int32) (v4 : Int32) (v5 : Int32) (m : Mem) : Option (Nat × Mem) :=
  gd (kd v0 == 0) (gd (okA 12 (gR m v0 0) v3) (gd (okA 12 (gR m v0 1) v3) (b1 (f_X0_keep N v0 (gI m (gR m v0 0) v3.toNatClampNeg) (gI m (gR m v0 1) v3.toNatClampNeg) m) (fun m_7 => rc v0 v1 v2 (v3 + (1 : Int32)) v4 (v5 + (1 : Int32)) m_7))))
def B_X0_add_81 (N : Nat) (rc : Nat → Int32 → Int32 → Int32 → Int32 → Int32 → Mem → Option (Nat × Mem)) (v0 : Nat) (v1 : Int32) (v2 : Int32) (v3 : Int32) (v4 : Int32) (v5 : Int32) (m : Mem) : Option (Nat × Mem) :=
  gd (kd v0 == 0) (gd (okA 12 (gR m v0 0) v4) (gd (okA 12 (gR m v0 1) v4) (b1 (f_X0_keep N v0 ((gI m (gR m v0 0) v4.toNatClampNeg) + v1) ((gI m (gR m v0 1) v4.toNatClampNeg) + v2) m) (fun m_11 => rc v0 v1 v2 v3 (v4 + (1 : Int32)) (v5 + (1 : Int32)) m_11))))
def T_X0_add_13 (N : Nat) (rc : Nat → Int32 → Int32 → Int32 → Int32 → Int32 → Mem → Option (Nat × Mem)) (v0 : Nat) (v1 : Int32) (v2 : Int32) (v3 : Int32) (v4 : Int32) (v5 : Int32) (m : Mem) : Option (Nat × Mem) :=
  gd (kd v0 == 0) ((if ((2 : Int32) * (gI m v0 2)) ≤ v5 then some ((v0, m)) else (if (gI m v0 2) ≤ v4 then B_X0_add_59 N rc v0 v1 v2 v3 v4 v5 m else (if (gI m v0 2) ≤ v3 then B_X0_add_81 N rc v0 v1 v2 v3 v4 v5 m else gd (okA 12 (gR m v0 0) v3) (gd (okA 12 (gR m v0 0) v4) ((if ((gI m (gR m v0 0) v4.toNatClampNeg) + v1) < (gI m (gR m v0 0) v3.toNatClampNeg) then B_X0_add_81 N rc v0 v1 v2 v3 v4 v5 m else B_X0_add_59 N rc v0 v1 v2 v3 v4 v5 m)))))))
def L_X0_add_13 (N : Nat) : Nat → Nat → Int32 → Int32 → Int32 → Int32 → Int32 → Mem → Option (Nat × Mem)
  | 0 => fun _ _ _ _ _ _ _ => none
  | n + 1 => T_X0_add_13 N (L_X0_add_13 N n)
def f_X0_add (N : Nat) (v0 : Nat) (v1 : Int32) (v2 : Int32) (m : Mem) : Option (Mem) :=
  gd (kd v0 == 0) (wr (sI m v0 5 (0 : Int32)) (fun m_2 => l2 (L_X0_add_13 N N v0 v1 v2 (0 : Int32) (0 : Int32) (0 : Int32) m_2) (fun v0_18 m_18 => gd (kd v0_18 == 0) (b1 (f_X0_swap N v0_18 m_18) (fun m_20 => some (m_20))))))
def T_J7_fill_53178_5 (N : Nat) (rc : Nat → Int32 → Int32 → Int32 → Mem → Option (Mem)) (v0 : Nat) (v1 : Int32) (v2 : Int32) (v3 : Int32) (m : Mem) : Option (Mem) :=
  (if v3 ≤ v2 then some (m) else gd (okA 12 v0 v2) (wr (sI m v0 v2.toNatClampNeg v1) (fun m_3 => rc v0 v1 (v2 + (1 : Int32)) v3 m_3)))
def L_J7_fill_53178_5 (N : Nat) : Nat → Nat → Int32 → Int32 → Int32 → Mem → Option (Mem)
  | 0 => fun _ _ _ _ _ => none
  | n + 1 => T_J7_fill_53178_5 N (L_J7_fill_53178_5 N n)
def f_J7_fill_53178 (N : Nat) (v0 : Nat) (v1 : Int32) (m : Mem) : Option (Mem) :=
  gd (kd v0 == 12) (l1 (L_J7_fill_53178_5 N N v0 v1 (0 : Int32) (Int32.ofNat (ln v0)) m) (fun  m_5 => some (m_5)))
def T_X1_fundFromPool_3 (N : Nat) (rc : Nat → Int32 → Int32 → Mem → Option (Mem)) (v1 : Nat) (v3 : Int32) (v4 : Int32) (m : Mem) : Option (Mem) :=
  (if (gI m 38 9) ≤ v4 then some (m) else gd (inb v4 16) (gd (inb (gI m 47 v4.toNatClampNeg) 16) ((if (gI m 43 (gI m 47 v4.toNatClampNeg).toNatClampNeg) < v3 then rc v1 v3 (v4 + (1 : Int32)) m else (if (gI m 49 (gI m 47 v4.toNatClampNeg).toNatClampNeg) = 0 then gd (kd v1 == 6) (gd (okA 12 (rt v1 12) (gI m 47 v4.toNatClampNeg)) ((if (gI m 48 2) < (gI m (rt v1 12) (gI m 47 v4.toNatClampNeg).toNatClampNeg) then rc v1 v3 (v4 + (1 : Int32)) m else wr (sI m 49 (gI m 47 v4.toNatClampNeg).toNatClampNeg (gI m (rt v1 12) (gI m 47 v4.toNatClampNeg).toNatClampNeg)) (fun m_5 => wr (sI m_5 48 2 ((gI m_5 48 2) - (gI m_5 49 (gI m 47 v4.toNatClampNeg).toNatClampNeg))) (fun m_6 => rc v1 v3 (v4 + (1 : Int32)) m_6))))) else rc v1 v3 (v4 + (1 : Int32)) m)))))
def L_X1_fundFromPool_3 (N : Nat) : Nat → Nat → Int32 → Int32 → Mem → Option (Mem)
  | 0 => fun _ _ _ _ => none
  | n + 1 => T_X1_fundFromPool_3 N (L_X1_fundFromPool_3 N n)
def f_X1_fundFromPool (N : Nat) (v1 : Nat) (v3 : Int32) (m : Mem) : Option (Mem) :=
  l1 (L_X1_fundFromPool_3 N N v1 v3 (0 : Int32) m) (fun  m_11 => some (m_11))
def B_X1_panelShare_21 (N : Nat)  (m : Mem) : Option (Int32 × Mem) :=
  some ((0 : Int32), m)
def f_X1_panelShare (N : Nat) (v0 : Int32) (v1 : Int32) (v2 : Int32) (v3 : Int32) (m : Mem) : Option (Int32 × Mem) :=
  (if v1 < v2 then (if v0 = (2 : Int32) then (if v1 < v3 then B_X1_panelShare_21 N  m else some (v1, m)) else B_X1_panelShare_21 N  m) else some (v2, m))
def B_X1_fundPanel_128 (N : Nat) (rc : Nat → Int32 → Int32 → Int32 → Int32 → Int32 → Int32 → Mem → Option (Int32 × Int32 × Mem)) (v1 : Nat) (v3 : Int32) (v4 : Int32) (v5 : Int32) (v6 : Int32) (v8 : Int32) (s0 : Int32) (m : Mem) : Option (Int32 × Int32 × Mem) :=
  rc v1 v3 v4 v5 v6 s0 (v8 + (1 : Int32)) m
def B_X1_fundPanel_123 (N : Nat) (rc : Nat → Int32 → Int32 → Int32 → Int32 → Int32 → Int32 → Mem → Option (Int32 × Int32 × Mem)) (v1 : Nat) (v3 : Int32) (v4 : Int32) (v5 : Int32) (v6 : Int32) (v8 : Int32) (m : Mem) : Option (Int32 × Int32 × Mem) :=
  B_X1_fundPanel_128 N rc v1 v3 v4 v5 v6 v8 (1 : Int32) m
def T_X1_fundPanel_15 (N : Nat) (rc : Nat → Int32 → Int32 → Int32 → Int32 → Int32 → Int32 → Mem → Option (Int32 × Int32 × Mem)) (v1 : Nat) (v3 : Int32) (v4 : Int32) (v5 : Int32) (v6 : Int32) (v7 : Int32) (v8 : Int32) (m : Mem) : Option (Int32 × Int32 × Mem) :=
  (if (gI m 38 9) ≤ v8 then some ((v5, v6, m)) else (if v7 = 0 then some ((v5, v6, m)) else gd (inb v8 16) (gd (kd v1 == 6) (gd (okA 12 (rt v1 9) (gI m 47 v8.toNatClampNeg)) ((if (gI m (rt v1 9) (gI m 47 v8.toNatClampNeg).toNatClampNeg) = v5 then gd (inb (gI m 47 v8.toNatClampNeg) 16) ((if (gI m 43 (gI m 47 v8.toNatClampNeg).toNatClampNeg) < v4 then rc v1 v3 v4 v5 v6 v7 (v8 + (1 : Int32)) m else gd (okA 12 (rt v1 12) (gI m 47 v8.toNatClampNeg)) (gd (okA 12 (rt v1 13) (gI m 47 v8.toNatClampNeg)) (b2 (f_X1_panelShare N v3 v6 (gI m (rt v1 12) (gI m 47 v8.toNatClampNeg).toNatClampNeg) (gI m (rt v1 13) (gI m 47 v8.toNatClampNeg).toNatClampNeg) m) (fun r_9 m_9 => wr (sI m_9 49 (gI m 47 v8.toNatClampNeg).toNatClampNeg r_9) (fun m_10 => (if v3 = (1 : Int32) then B_X1_fundPanel_123 N rc v1 v3 v4 v5 (v6 - (gI m_10 49 (gI m 47 v8.toNatClampNeg).toNatClampNeg)) v8 m_10 else (if (gI m_10 49 (gI m 47 v8.toNatClampNeg).toNatClampNeg) = (gI m_10 (rt v1 12) (gI m 47 v8.toNatClampNeg).toNatClampNeg) then B_X1_fundPanel_123 N rc v1 v3 v4 v5 (v6 - (gI m_10 49 (gI m 47 v8.toNatClampNeg).toNatClampNeg)) v8 m_10 else B_X1_fundPanel_128 N rc v1 v3 v4 v5 (v6 - (gI m_10 49 (gI m 47 v8.toNatClampNeg).toNatClampNeg)) v8 (0 : Int32) m_10)))))))) else rc v1 v3 v4 v5 v6 v7 (v8 + (1 : Int32)) m))))))
def L_X1_fundPanel_15 (N : Nat) : Nat → Nat → Int32 → Int32 → Int32 → Int32 → Int32 → Int32 → Mem → Option (Int32 × Int32 × Mem)
  | 0 => fun _ _ _ _ _ _ _ _ => none
  | n + 1 => T_X1_fundPanel_15 N (L_X1_fundPanel_15 N n)
def B_X1_fundPanel_136 (N : Nat) (v5 : Int32) (v6 : Int32) (m : Mem) : Option (Mem) :=
  gd (inb v5 4) (wr (sI m 50 v5.toNatClampNeg v6) (fun m_19 => some (m_19)))
def f_X1_fundPanel (N : Nat) (v1 : Nat) (v3 : Int32) (v4 : Int32) (v5 : Int32) (m : Mem) : Option (Mem) :=
  gd (kd v1 == 6) (gd (okA 12 (rt v1 3) v5) (l3 (L_X1_fundPanel_15 N N v1 v3 v4 v5 (gI m (rt v1 3) v5.toNatClampNeg) (1 : Int32) (0 : Int32) m) (fun v5_17 v6_17 m_17 => B_X1_fundPanel_136 N v5_17 v6_17 m_17)))
def T_X1_distribute_19 (N : Nat) (rc : Nat → Int32 → Int32 → Int32 → Mem → Option (Nat × Int32 × Mem)) (v1 : Nat) (v3 : Int32) (v4 : Int32) (v5 : Int32) (m : Mem) : Option (Nat × Int32 × Mem) :=
  gd (kd v1 == 6) ((if (gI m v1 0) ≤ v5 then some ((v1, v4, m)) else b1 (f_X1_fundPanel N v1 v3 v4 v5 m) (fun m_5 => gd (inb v5 4) (wr (sI m_5 48 2 ((gI m_5 48 2) + (gI m_5 50 v5.toNatClampNeg))) (fun m_7 => rc v1 v3 v4 (v5 + (1 : Int32)) m_7)))))
def L_X1_distribute_19 (N : Nat) : Nat → Nat → Int32 → Int32 → Int32 → Mem → Option (Nat × Int32 × Mem)
  | 0 => fun _ _ _ _ _ => none
  | n + 1 => T_X1_distribute_19 N (L_X1_distribute_19 N n)
def f_X1_distribute (N : Nat) (v1 : Nat) (v3 : Int32) (v4 : Int32) (m : Mem) : Option (Mem) :=
  b1 (f_J7_fill_53178 N 49 (0 : Int32) m) (fun m_1 => gd (kd v1 == 6) (wr (sI m_1 48 2 (gI m_1 v1 17)) (fun m_3 => l3 (L_X1_distribute_19 N N v1 v3 v4 (0 : Int32) m_3) (fun v1_9 v4_9 m_9 => b1 (f_X1_fundFromPool N v1_9 v4_9 m_9) (fun m_10 => some (m_10))))))
def T_X1_winners_4 (N : Nat) (rc : Int32 → Int32 → Int32 → Mem → Option (Int32 × Mem)) (v1 : Int32) (v2 : Int32) (v3 : Int32) (m : Mem) : Option (Int32 × Mem) :=
  (if v1 ≤ v3 then some ((v2, m)) else gd (inb v3 16) ((if (gI m 49 v3.toNatClampNeg) ≤ 0 then rc v1 v2 (v3 + (1 : Int32)) m else rc v1 (v2 ||| ((1 : Int32) <<< (v3 &&& 31))) (v3 + (1 : Int32)) m)))
def L_X1_winners_4 (N : Nat) : Nat → Int32 → Int32 → Int32 → Mem → Option (Int32 × Mem)
  | 0 => fun _ _ _ _ => none
  | n + 1 => T_X1_winners_4 N (L_X1_winners_4 N n)
def f_X1_winners (N : Nat) (v1 : Int32) (m : Mem) : Option (Int32 × Mem) :=
  l2 (L_X1_winners_4 N N v1 (0 : Int32) (0 : Int32) m) (fun v2_4 m_4 => some (v2_4, m_4))
def f_X2_clear (N : Nat)  (m : Mem) : Option (Mem) :=
  wr (sI m 6 2 (0 : Int32)) (fun m_1 => some (m_1))
def f_X7_copyFrom (N : Nat) (v0 : Nat) (v1 : Nat) (m : Mem) : Option (Mem) :=
  gd (kd v1 == 7) (gd (kd v0 == 7) (gd (okC (rt v1 0) (rt v0 0) (0 : Int32) (0 : Int32) (192 : Int32)) (wr (cpI m (rt v1 0) (0 : Int32).toNatClampNeg (rt v0 0) (0 : Int32).toNatClampNeg (192 : Int32).toNatClampNeg) (fun m_4 => gd (okC (rt v1 1) (rt v0 1) (0 : Int32) (0 : Int32) (12 : Int32)) (wr (cpI m_4 (rt v1 1) (0 : Int32).toNatClampNeg (rt v0 1) (0 : Int32).toNatClampNeg (12 : Int32).toNatClampNeg) (fun m_6 => wr (sI m_6 v0 2 (gI m_6 v1 2)) (fun m_7 => wr (sI m_7 v0 3 (gI m_7 v1 3)) (fun m_8 => some (m_8)))))))))
def B_X2_remember_35 (N : Nat) (s0 : Int32) (m : Mem) : Option (Mem) :=
  wr (sI m 6 1 s0) (fun m_4 => wr (sI m_4 6 2 (if (10 : Int32) < ((gI m_4 6 2) + (1 : Int32)) then (10 : Int32) else ((gI m_4 6 2) + (1 : Int32)))) (fun m_5 => some (m_5)))
def f_X2_remember (N : Nat)  (m : Mem) : Option (Mem) :=
  gd (inb (gI m 6 1) 10) (gd (kd (rt 7 (gI m 6 1).toNatClampNeg) == 7) (b1 (f_X7_copyFrom N (rt 7 (gI m 6 1).toNatClampNeg) 3 m) (fun m_3 => (if (10 : Int32) ≤ ((gI m_3 6 1) + (1 : Int32)) then B_X2_remember_35 N (0 : Int32) m_3 else B_X2_remember_35 N ((gI m_3 6 1) + (1 : Int32)) m_3))))
def B_X2_restore_19 (N : Nat) (s0 : Int32) (m : Mem) : Option (Mem) :=
  wr (sI m 6 1 s0) (fun m_1 => wr (sI m_1 6 2 ((gI m_1 6 2) - (1 : Int32))) (fun m_2 => gd (inb (gI m_2 6 1) 10) (b1 (f_X7_copyFrom N 3 (rt 7 (gI m_2 6 1).toNatClampNeg) m_2) (fun m_4 => some (m_4)))))
def f_X2_restore (N : Nat)  (m : Mem) : Option (Mem) :=
  (if (gI m 6 1) ≤ 0 then B_X2_restore_19 N (9 : Int32) m else B_X2_restore_19 N ((gI m 6 1) - (1 : Int32)) m)
def f_X3_clear (N : Nat)  (m : Mem) : Option (Mem) :=
  b1 (f_X0_clear N 61 m) (fun m_1 => b1 (f_X0_clear N 66 m_1) (fun m_2 => wr (sI m_2 60 2 (0 : Int32)) (fun m_3 => some (m_3))))
def B_X3_offer_30 (N : Nat)  (m : Mem) : Option (Mem) :=
  wr (sI m 60 2 ((gI m 60 2) + (1 : Int32))) (fun m_2 => some (m_2))
def f_X3_offer (N : Nat) (v1 : Int32) (v2 : Int32) (m : Mem) : Option (Mem) :=
  (if ((gI m 60 2) &&& (1 : Int32)) = 0 then b1 (f_X0_add N 61 v1 v2 m) (fun m_3 => B_X3_offer_30 N  m_3) else b1 (f_X0_add N 66 v1 v2 m) (fun m_1 => B_X3_offer_30 N  m_1))
def T_X3_best_27 (N : Nat) (rc : Int32 → Int32 → Int32 → Int32 → Mem → Option (Int32 × Int32 × Int32 × Int32 × Mem)) (v1 : Int32) (v2 : Int32) (v3 : Int32) (v4 : Int32) (m : Mem) : Option (Int32 × Int32 × Int32 × Int32 × Mem) :=
  (if v3 < 0 then some ((v1, v2, v3, v4, m)) else gd (okA 12 (gR m 61 0) v4) (gd (okA 12 (gR m 66 0) v3) ((if ((gI m (gR m 61 0) v4.toNatClampNeg) + (gI m (gR m 66 0) v3.toNatClampNeg)) ≤ v1 then some ((v1, v2, v3, v4, m)) else rc v1 v2 (v3 + (-1 : Int32)) v4 m))))
def L_X3_best_27 (N : Nat) : Nat → Int32 → Int32 → Int32 → Int32 → Mem → Option (Int32 × Int32 × Int32 × Int32 × Mem)
  | 0 => fun _ _ _ _ _ => none
  | n + 1 => T_X3_best_27 N (L_X3_best_27 N n)
def B_X3_best_61 (N : Nat) (rc : Int32 → Int32 → Int32 → Int32 → Mem → Option ((Int32 × Mem) ⊕ (Int32 × Mem))) (v1 : Int32) (v2 : Int32) (v3 : Int32) (v4 : Int32) (m : Mem) : Option ((Int32 × Mem) ⊕ (Int32 × Mem)) :=
  (if 0 ≤ v3 then gd (okA 12 (gR m 61 1) v4) (gd (okA 12 (gR m 66 1) v3) (rc v1 (if v2 < ((gI m (gR m 61 1) v4.toNatClampNeg) + (gI m (gR m 66 1) v3.toNatClampNeg)) then ((gI m (gR m 61 1) v4.toNatClampNeg) + (gI m (gR m 66 1) v3.toNatClampNeg)) else v2) v3 (v4 + (1 : Int32)) m)) else some (.inr ((v2, m))))
def T_X3_best_15 (N : Nat) (rc : Int32 → Int32 → Int32 → Int32 → Mem → Option ((Int32 × Mem) ⊕ (Int32 × Mem))) (v1 : Int32) (v2 : Int32) (v3 : Int32) (v4 : Int32) (m : Mem) : Option ((Int32 × Mem) ⊕ (Int32 × Mem)) :=
  (if (gI m 61 2) ≤ v4 then some (.inl ((v2, m))) else l5 (L_X3_best_27 N N v1 v2 v3 v4 m) (fun v1_5 v2_5 v3_5 v4_5 m_5 => B_X3_best_61 N rc v1_5 v2_5 v3_5 v4_5 m_5))
def L_X3_best_15 (N : Nat) : Nat → Int32 → Int32 → Int32 → Int32 → Mem → Option ((Int32 × Mem) ⊕ (Int32 × Mem))
  | 0 => fun _ _ _ _ _ => none
  | n + 1 => T_X3_best_15 N (L_X3_best_15 N n)
def f_X3_best (N : Nat) (v1 : Int32) (m : Mem) : Option (Int32 × Mem) :=
  (L_X3_best_15 N N v1 (0 : Int32) ((gI m 66 2) - (1 : Int32)) (0 : Int32) m).bind (fun x9 => match x9 with | .inl ((v2_10, m_10)) => some (v2_10, m_10) | .inr ((v2_10, m_10)) => some (v2_10, m_10))
def B_X4_bestEnd_51 (N : Nat) (rc : Int32 → Int32 → Mem → Option (Int32 × Mem)) (v2 : Int32) (m : Mem) : Option (Int32 × Mem) :=
  rc v2 (v2 + (1 : Int32)) m
def T_X4_bestEnd_4 (N : Nat) (rc : Int32 → Int32 → Mem → Option (Int32 × Mem)) (v1 : Int32) (v2 : Int32) (m : Mem) : Option (Int32 × Mem) :=
  (if (gI m 51 8) ≤ v2 then some ((v1, m)) else gd (inb v2 12) ((if (gI m 54 v2.toNatClampNeg) ≤ 0 then rc v1 (v2 + (1 : Int32)) m else (if (gI m 57 v2.toNatClampNeg) = (-1 : Int32) then rc v1 (v2 + (1 : Int32)) m else (if v1 = (-1 : Int32) then B_X4_bestEnd_51 N rc v2 m else gd (inb v1 12) ((if (gI m 56 v2.toNatClampNeg) ≤ (gI m 56 v1.toNatClampNeg) then rc v1 (v2 + (1 : Int32)) m else B_X4_bestEnd_51 N rc v2 m)))))))
def L_X4_bestEnd_4 (N : Nat) : Nat → Int32 → Int32 → Mem → Option (Int32 × Mem)
  | 0 => fun _ _ _ => none
  | n + 1 => T_X4_bestEnd_4 N (L_X4_bestEnd_4 N n)
def f_X4_bestEnd (N : Nat)  (m : Mem) : Option (Int32 × Mem) :=
  l2 (L_X4_bestEnd_4 N N (-1 : Int32) (0 : Int32) m) (fun v1_8 m_8 => some (v1_8, m_8))
def f_X9_cell (N : Nat) (v0 : Int32) (v1 : Int32) (m : Mem) : Option (Int32 × Mem) :=
  some ((v0 * (16 : Int32)) + v1, m)
def T_X4_reachProposals_14 (N : Nat) (rc : Int32 → Int32 → Int32 → Mem → Option (Int32 × Int32 × Mem)) (v1 : Int32) (v2 : Int32) (v3 : Int32) (m : Mem) : Option (Int32 × Int32 × Mem) :=
  (if (gI m 51 9) ≤ v3 then some ((v1, v2, m)) else gd (inb v2 12) ((if (gI m 56 v2.toNatClampNeg) = (-1000000 : Int32) then some ((v1, v2, m)) else b2 (f_X9_cell N v2 v3 m) (fun r_2 m_2 => gd (inb r_2 192) ((if (gI m_2 53 r_2.toNatClampNeg) = 0 then rc v1 v2 (v3 + (1 : Int32)) m_2 else gd (inb v3 16) ((if ((gI m_2 56 v2.toNatClampNeg) - (gI m_2 52 r_2.toNatClampNeg)) ≤ (gI m_2 58 v3.toNatClampNeg) then rc v1 v2 (v3 + (1 : Int32)) m_2 else wr (sI m_2 58 v3.toNatClampNeg ((gI m_2 56 v2.toNatClampNeg) - (gI m_2 52 r_2.toNatClampNeg))) (fun m_5 => wr (sI m_5 59 v3.toNatClampNeg v2) (fun m_6 => rc (1 : Int32) v2 (v3 + (1 : Int32)) m_6))))))))))
def L_X4_reachProposals_14 (N : Nat) : Nat → Int32 → Int32 → Int32 → Mem → Option (Int32 × Int32 × Mem)
  | 0 => fun _ _ _ _ => none
  | n + 1 => T_X4_reachProposals_14 N (L_X4_reachProposals_14 N n)
def T_X4_reachProposals_4 (N : Nat) (rc : Int32 → Int32 → Mem → Option (Int32 × Mem)) (v1 : Int32) (v2 : Int32) (m : Mem) : Option (Int32 × Mem) :=
  (if (gI m 51 8) ≤ v2 then some ((v1, m)) else l3 (L_X4_reachProposals_14 N N v1 v2 (0 : Int32) m) (fun v1_11 v2_11 m_11 => rc v1_11 (v2_11 + (1 : Int32)) m_11))
def L_X4_reachProposals_4 (N : Nat) : Nat → Int32 → Int32 → Mem → Option (Int32 × Mem)
  | 0 => fun _ _ _ => none
  | n + 1 => T_X4_reachProposals_4 N (L_X4_reachProposals_4 N n)
def f_X4_reachProposals (N : Nat)  (m : Mem) : Option (Int32 × Mem) :=
  l2 (L_X4_reachProposals_4 N N (0 : Int32) (0 : Int32) m) (fun v1_13 m_13 => gd (isB v1_13) (some (v1_13, m_13)))
def T_X4_reachReviewers_14 (N : Nat) (rc : Int32 → Int32 → Int32 → Mem → Option (Int32 × Int32 × Mem)) (v1 : Int32) (v2 : Int32) (v3 : Int32) (m : Mem) : Option (Int32 × Int32 × Mem) :=
  (if (gI m 51 8) ≤ v3 then some ((v1, v2, m)) else gd (inb v2 16) ((if (gI m 58 v2.toNatClampNeg) = (-1000000 : Int32) then some ((v1, v2, m)) else b2 (f_X9_cell N v3 v2 m) (fun r_2 m_2 => gd (inb r_2 192) ((if (gI m_2 52 r_2.toNatClampNeg) = (-1 : Int32) then rc v1 v2 (v3 + (1 : Int32)) m_2 else (if (gI m_2 53 r_2.toNatClampNeg) = 0 then gd (inb v3 12) ((if ((gI m_2 58 v2.toNatClampNeg) + (gI m_2 52 r_2.toNatClampNeg)) ≤ (gI m_2 56 v3.toNatClampNeg) then rc v1 v2 (v3 + (1 : Int32)) m_2 else wr (sI m_2 56 v3.toNatClampNeg ((gI m_2 58 v2.toNatClampNeg) + (gI m_2 52 r_2.toNatClampNeg))) (fun m_5 => wr (sI m_5 57 v3.toNatClampNeg v2) (fun m_6 => rc (1 : Int32) v2 (v3 + (1 : Int32)) m_6)))) else rc v1 v2 (v3 + (1 : Int32)) m_2)))))))
def L_X4_reachReviewers_14 (N : Nat) : Nat → Int32 → Int32 → Int32 → Mem → Option (Int32 × Int32 × Mem)
  | 0 => fun _ _ _ _ => none
  | n + 1 => T_X4_reachReviewers_14 N (L_X4_reachReviewers_14 N n)
def T_X4_reachReviewers_4 (N : Nat) (rc : Int32 → Int32 → Mem → Option (Int32 × Mem)) (v1 : Int32) (v2 : Int32) (m : Mem) : Option (Int32 × Mem) :=
  (if (gI m 51 9) ≤ v2 then some ((v1, m)) else l3 (L_X4_reachReviewers_14 N N v1 v2 (0 : Int32) m) (fun v1_12 v2_12 m_12 => rc v1_12 (v2_12 + (1 : Int32)) m_12))
def L_X4_reachReviewers_4 (N : Nat) : Nat → Int32 → Int32 → Mem → Option (Int32 × Mem)
  | 0 => fun _ _ _ => none
  | n + 1 => T_X4_reachReviewers_4 N (L_X4_reachReviewers_4 N n)
def f_X4_reachReviewers (N : Nat)  (m : Mem) : Option (Int32 × Mem) :=
  l2 (L_X4_reachReviewers_4 N N (0 : Int32) (0 : Int32) m) (fun v1_14 m_14 => gd (isB v1_14) (some (v1_14, m_14)))
def B_X4_findPaths_55 (N : Nat) (rc : Int32 → Mem → Option (Mem)) (v1 : Int32) (s0 : Int32) (s1 : Int32) (m : Mem) : Option (Mem) :=
  gd (inb s1 16) (wr (sI m 58 s1.toNatClampNeg s0) (fun m_6 => rc (v1 + (1 : Int32)) m_6))
def T_X4_findPaths_27 (N : Nat) (rc : Int32 → Mem → Option (Mem)) (v1 : Int32) (m : Mem) : Option (Mem) :=
  (if (gI m 51 9) ≤ v1 then some (m) else gd (inb v1 16) ((if (gI m 55 v1.toNatClampNeg) ≤ 0 then B_X4_findPaths_55 N rc v1 (-1000000 : Int32) v1 m else B_X4_findPaths_55 N rc v1 (0 : Int32) v1 m)))
def L_X4_findPaths_27 (N : Nat) : Nat → Int32 → Mem → Option (Mem)
  | 0 => fun _ _ => none
  | n + 1 => T_X4_findPaths_27 N (L_X4_findPaths_27 N n)
def T_X4_findPaths_64 (N : Nat) (rc : Int32 → Mem → Option ((Mem) ⊕ (Mem))) (v1 : Int32) (m : Mem) : Option ((Mem) ⊕ (Mem)) :=
  (if (12 : Int32) < v1 then some (.inl (m)) else b2 (f_X4_reachReviewers N  m) (fun r_10 m_10 => (if r_10 = 0 then some (.inr (m_10)) else b2 (f_X4_reachProposals N  m_10) (fun r_11 m_11 => (if r_11 = 0 then some (.inr (m_11)) else rc (v1 + (1 : Int32)) m_11)))))
def L_X4_findPaths_64 (N : Nat) : Nat → Int32 → Mem → Option ((Mem) ⊕ (Mem))
  | 0 => fun _ _ => none
  | n + 1 => T_X4_findPaths_64 N (L_X4_findPaths_64 N n)
def f_X4_findPaths (N : Nat)  (m : Mem) : Option (Mem) :=
  b1 (f_J7_fill_53178 N 56 (-1000000 : Int32) m) (fun m_1 => b1 (f_J7_fill_53178 N 57 (-1 : Int32) m_1) (fun m_2 => b1 (f_J7_fill_53178 N 59 (-1 : Int32) m_2) (fun m_3 => l1 (L_X4_findPaths_27 N N (0 : Int32) m_3) (fun  m_9 => (L_X4_findPaths_64 N N (0 : Int32) m_9).bind (fun x9 => match x9 with | .inl (m_15) => some (m_15) | .inr (m_15) => some (m_15))))))
def T_X4_follow_14 (N : Nat) (rc : Int32 → Int32 → Mem → Option ((Mem) ⊕ (Mem))) (v2 : Int32) (v3 : Int32) (m : Mem) : Option ((Mem) ⊕ (Mem)) :=
  (if (12 : Int32) ≤ v3 then some (.inl (m)) else (if v2 = (-1 : Int32) then some (.inl (m)) else gd (inb v2 12) ((if (gI m 57 v2.toNatClampNeg) = (-1 : Int32) then some (.inr (m)) else b2 (f_X9_cell N v2 (gI m 57 v2.toNatClampNeg) m) (fun r_4 m_4 => gd (inb r_4 192) (wr (sI m_4 53 r_4.toNatClampNeg (vp_nar .boolean (1 : Int32))) (fun m_6 => gd (inb (gI m 57 v2.toNatClampNeg) 16) ((if (gI m_6 59 (gI m 57 v2.toNatClampNeg).toNatClampNeg) = (-1 : Int32) then wr (sI m_6 55 (gI m 57 v2.toNatClampNeg).toNatClampNeg ((gI m_6 55 (gI m 57 v2.toNatClampNeg).toNatClampNeg) - (1 : Int32))) (fun m_11 => rc (gI m_6 59 (gI m 57 v2.toNatClampNeg).toNatClampNeg) (v3 + (1 : Int32)) m_11) else b2 (f_X9_cell N (gI m_6 59 (gI m 57 v2.toNatClampNeg).toNatClampNeg) (gI m 57 v2.toNatClampNeg) m_6) (fun r_8 m_8 => gd (inb r_8 192) (wr (sI m_8 53 r_8.toNatClampNeg (vp_nar .boolean (0 : Int32))) (fun m_10 => rc (gI m_6 59 (gI m 57 v2.toNatClampNeg).toNatClampNeg) (v3 + (1 : Int32)) m_10))))))))))))
def L_X4_follow_14 (N : Nat) : Nat → Int32 → Int32 → Mem → Option ((Mem) ⊕ (Mem))
  | 0 => fun _ _ _ => none
  | n + 1 => T_X4_follow_14 N (L_X4_follow_14 N n)
def f_X4_follow (N : Nat) (v1 : Int32) (m : Mem) : Option (Mem) :=
  gd (inb v1 12) (wr (sI m 54 v1.toNatClampNeg ((gI m 54 v1.toNatClampNeg) - (1 : Int32))) (fun m_2 => (L_X4_follow_14 N N v1 (0 : Int32) m_2).bind (fun x9 => match x9 with | .inl (m_16) => some (m_16) | .inr (m_16) => some (m_16))))
def f_X6_matchOf (N : Nat) (v0 : Nat) (v1 : Int32) (v2 : Int32) (m : Mem) : Option (Int32 × Mem) :=
  gd (kd v0 == 6) (gd (okA 12 (rt v0 11) v2) (gd (okA 12 (rt v0 7) v1) ((if ((gI m (rt v0 7) v1.toNatClampNeg) &&& ((1 : Int32) <<< ((gI m (rt v0 11) v2.toNatClampNeg) &&& 31))) = 0 then (if ((gI m (rt v0 7) v1.toNatClampNeg) &&& ((((1 : Int32) <<< ((gI m (rt v0 11) v2.toNatClampNeg) &&& 31)) <<< ((1 : Int32) &&& 31)) ||| (((1 : Int32) <<< ((gI m (rt v0 11) v2.toNatClampNeg) &&& 31)) >>> ((1 : Int32) &&& 31)))) = 0 then some ((0 : Int32), m) else some ((1 : Int32), m)) else some ((2 : Int32), m)))))
def f_X7_isDeclared (N : Nat) (v1 : Int32) (v2 : Int32) (m : Mem) : Option (Int32 × Mem) :=
  gd (inb v1 12) ((if (((gI m 5 v1.toNatClampNeg) >>> (v2 &&& 31)) &&& (1 : Int32)) = 0 then some ((0 : Int32), m) else some ((1 : Int32), m)))
def B_X9_hasConflict_24 (N : Nat)  (m : Mem) : Option (Int32 × Mem) :=
  some ((1 : Int32), m)
def f_X9_hasConflict (N : Nat) (v0 : Nat) (v2 : Int32) (v3 : Int32) (m : Mem) : Option (Int32 × Mem) :=
  gd (kd v0 == 6) (gd (okA 12 (rt v0 5) v2) (gd (okA 12 (rt v0 10) v3) ((if (gI m (rt v0 5) v2.toNatClampNeg) = (gI m (rt v0 10) v3.toNatClampNeg) then B_X9_hasConflict_24 N  m else b2 (f_X7_isDeclared N v2 v3 m) (fun r_4 m_4 => (if r_4 = 0 then some ((0 : Int32), m_4) else B_X9_hasConflict_24 N  m_4))))))
def B_X9_fits_29 (N : Nat)  (m : Mem) : Option (Int32 × Mem) :=
  some ((0 : Int32), m)
def f_X9_fits (N : Nat) (v0 : Nat) (v2 : Int32) (v3 : Int32) (m : Mem) : Option (Int32 × Mem) :=
  gd (kd v0 == 6) (gd (okA 12 (rt v0 4) v2) (gd (okA 12 (rt v0 9) v3) ((if (gI m (rt v0 4) v2.toNatClampNeg) = (gI m (rt v0 9) v3.toNatClampNeg) then b2 (f_X9_hasConflict N v0 v2 v3 m) (fun r_4 m_4 => (if r_4 = 0 then some ((1 : Int32), m_4) else B_X9_fits_29 N  m_4)) else B_X9_fits_29 N  m))))
def T_X4_prepare_29 (N : Nat) (rc : Nat → Int32 → Int32 → Mem → Option (Nat × Int32 × Mem)) (v1 : Nat) (v3 : Int32) (v4 : Int32) (m : Mem) : Option (Nat × Int32 × Mem) :=
  (if (gI m 51 8) ≤ v4 then some ((v1, v3, m)) else gd (kd v1 == 6) (gd (okA 12 (rt v1 6) v4) (gd (inb v4 12) (wr (sI m 54 v4.toNatClampNeg (gI m (rt v1 6) v4.toNatClampNeg)) (fun m_9 => rc v1 v3 (v4 + (1 : Int32)) m_9)))))
def L_X4_prepare_29 (N : Nat) : Nat → Nat → Int32 → Int32 → Mem → Option (Nat × Int32 × Mem)
  | 0 => fun _ _ _ _ => none
  | n + 1 => T_X4_prepare_29 N (L_X4_prepare_29 N n)
def B_X4_prepare_172 (N : Nat) (rc : Nat → Int32 → Int32 → Int32 → Int32 → Mem → Option (Nat × Int32 × Int32 × Mem)) (v1 : Nat) (v3 : Int32) (v4 : Int32) (v5 : Int32) (v6 : Int32) (s0 : Int32) (s1 : Int32) (m : Mem) : Option (Nat × Int32 × Int32 × Mem) :=
  gd (inb s1 192) (wr (sI m 52 s1.toNatClampNeg s0) (fun m_18 => b2 (f_X9_cell N v6 v4 m_18) (fun r_19 m_19 => gd (inb r_19 192) (wr (sI m_19 53 r_19.toNatClampNeg (vp_nar .boolean (0 : Int32))) (fun m_21 => rc v1 v3 v4 v5 (v6 + (1 : Int32)) m_21)))))
def B_X4_prepare_142 (N : Nat) (rc : Nat → Int32 → Int32 → Int32 → Int32 → Mem → Option (Nat × Int32 × Int32 × Mem)) (v1 : Nat) (v3 : Int32) (v4 : Int32) (v5 : Int32) (v6 : Int32) (s0 : Int32) (m : Mem) : Option (Nat × Int32 × Int32 × Mem) :=
  b2 (f_X9_cell N v6 v4 m) (fun r_16 m_16 => (if s0 = 0 then B_X4_prepare_172 N rc v1 v3 v4 v5 v6 (-1 : Int32) r_16 m_16 else gd (kd v1 == 6) (b2 (f_X6_matchOf N v1 v6 v4 m_16) (fun r_23 m_23 => B_X4_prepare_172 N rc v1 v3 v4 v5 v6 r_23 r_16 m_23))))
def B_X4_prepare_141 (N : Nat) (rc : Nat → Int32 → Int32 → Int32 → Int32 → Mem → Option (Nat × Int32 × Int32 × Mem)) (v1 : Nat) (v3 : Int32) (v4 : Int32) (v5 : Int32) (v6 : Int32) (m : Mem) : Option (Nat × Int32 × Int32 × Mem) :=
  B_X4_prepare_142 N rc v1 v3 v4 v5 v6 (0 : Int32) m
def T_X4_prepare_111 (N : Nat) (rc : Nat → Int32 → Int32 → Int32 → Int32 → Mem → Option (Nat × Int32 × Int32 × Mem)) (v1 : Nat) (v3 : Int32) (v4 : Int32) (v5 : Int32) (v6 : Int32) (m : Mem) : Option (Nat × Int32 × Int32 × Mem) :=
  (if (gI m 51 8) ≤ v6 then some ((v1, v3, v4, m)) else (if v5 = 0 then B_X4_prepare_141 N rc v1 v3 v4 v5 v6 m else b2 (f_X9_fits N v1 v6 v4 m) (fun r_25 m_25 => (if r_25 = 0 then B_X4_prepare_141 N rc v1 v3 v4 v5 v6 m_25 else B_X4_prepare_142 N rc v1 v3 v4 v5 v6 (1 : Int32) m_25))))
def L_X4_prepare_111 (N : Nat) : Nat → Nat → Int32 → Int32 → Int32 → Int32 → Mem → Option (Nat × Int32 × Int32 × Mem)
  | 0 => fun _ _ _ _ _ _ => none
  | n + 1 => T_X4_prepare_111 N (L_X4_prepare_111 N n)
def B_X4_prepare_107 (N : Nat) (rc : Nat → Int32 → Int32 → Mem → Option (Mem)) (v1 : Nat) (v3 : Int32) (v4 : Int32) (v5 : Int32) (s0 : Int32) (s1 : Int32) (m : Mem) : Option (Mem) :=
  gd (inb s1 16) (wr (sI m 55 s1.toNatClampNeg s0) (fun m_15 => l4 (L_X4_prepare_111 N N v1 v3 v4 v5 (0 : Int32) m_15) (fun v1_29 v3_29 v4_29 m_29 => rc v1_29 v3_29 (v4_29 + (1 : Int32)) m_29)))
def B_X4_prepare_86 (N : Nat) (rc : Nat → Int32 → Int32 → Mem → Option (Mem)) (v1 : Nat) (v3 : Int32) (v4 : Int32) (s0 : Int32) (m : Mem) : Option (Mem) :=
  (if s0 = 0 then B_X4_prepare_107 N rc v1 v3 v4 s0 (0 : Int32) v4 m else gd (kd v1 == 6) (B_X4_prepare_107 N rc v1 v3 v4 s0 (gI m v1 14) v4 m))
def T_X4_prepare_61 (N : Nat) (rc : Nat → Int32 → Int32 → Mem → Option (Mem)) (v1 : Nat) (v3 : Int32) (v4 : Int32) (m : Mem) : Option (Mem) :=
  (if (gI m 51 9) ≤ v4 then some (m) else gd (kd v1 == 6) (gd (okA 12 (rt v1 9) v4) ((if (gI m (rt v1 9) v4.toNatClampNeg) = v3 then B_X4_prepare_86 N rc v1 v3 v4 (1 : Int32) m else B_X4_prepare_86 N rc v1 v3 v4 (0 : Int32) m))))
def L_X4_prepare_61 (N : Nat) : Nat → Nat → Int32 → Int32 → Mem → Option (Mem)
  | 0 => fun _ _ _ _ => none
  | n + 1 => T_X4_prepare_61 N (L_X4_prepare_61 N n)
def f_X4_prepare (N : Nat) (v1 : Nat) (v3 : Int32) (m : Mem) : Option (Mem) :=
  wr (sI m 51 10 (0 : Int32)) (fun m_1 => wr (sI m_1 51 11 (0 : Int32)) (fun m_2 => gd (kd v1 == 6) (wr (sI m_2 51 8 (gI m_2 v1 1)) (fun m_4 => wr (sI m_4 51 9 (gI m_4 v1 2)) (fun m_5 => l3 (L_X4_prepare_29 N N v1 v3 (0 : Int32) m_5) (fun v1_11 v3_11 m_11 => l1 (L_X4_prepare_61 N N v1_11 v3_11 (0 : Int32) m_11) (fun  m_34 => some (m_34))))))))
def T_X4_solve_10 (N : Nat) (rc : Int32 → Mem → Option ((Mem) ⊕ (Mem))) (v4 : Int32) (m : Mem) : Option ((Mem) ⊕ (Mem)) :=
  (if (64 : Int32) ≤ v4 then some (.inl (m)) else b1 (f_X4_findPaths N  m) (fun m_2 => b2 (f_X4_bestEnd N  m_2) (fun r_3 m_3 => (if r_3 = (-1 : Int32) then some (.inr (m_3)) else wr (sI m_3 51 10 ((gI m_3 51 10) + (1 : Int32))) (fun m_4 => gd (inb r_3 12) (wr (sI m_4 51 11 ((gI m_4 51 11) + (gI m_4 56 r_3.toNatClampNeg))) (fun m_6 => b1 (f_X4_follow N r_3 m_6) (fun m_7 => rc (v4 + (1 : Int32)) m_7))))))))
def L_X4_solve_10 (N : Nat) : Nat → Int32 → Mem → Option ((Mem) ⊕ (Mem))
  | 0 => fun _ _ => none
  | n + 1 => T_X4_solve_10 N (L_X4_solve_10 N n)
def f_X4_solve (N : Nat) (v1 : Nat) (v3 : Int32) (m : Mem) : Option (Mem) :=
  b1 (f_X4_prepare N v1 v3 m) (fun m_1 => (L_X4_solve_10 N N (0 : Int32) m_1).bind (fun x9 => match x9 with | .inl (m_10) => some (m_10) | .inr (m_10) => some (m_10)))
def f_X5_merit (N : Nat) (v1 : Int32) (v2 : Int32) (m : Mem) : Option (Int32 × Mem) :=
  (if v1 = (0 : Int32) then gd (inb v2 16) (some (gI m 43 v2.toNatClampNeg, m)) else if v1 = (1 : Int32) then gd (inb v2 16) (some (gI m 44 v2.toNatClampNeg, m)) else if v1 = (2 : Int32) then gd (inb v2 16) (some (gI m 45 v2.toNatClampNeg, m)) else if v1 = (3 : Int32) then gd (inb v2 16) (some (-(gI m 46 v2.toNatClampNeg), m)) else some (-v2, m))
def T_X5_separation_2 (N : Nat) (rc : Int32 → Int32 → Int32 → Mem → Option ((Mem) ⊕ (Int32 × Mem))) (v1 : Int32) (v2 : Int32) (v3 : Int32) (m : Mem) : Option ((Mem) ⊕ (Int32 × Mem)) :=
  (if (4 : Int32) ≤ v3 then some (.inl (m)) else b2 (f_X5_merit N v3 v1 m) (fun r_1 m_1 => b2 (f_X5_merit N v3 v2 m_1) (fun r_2 m_2 => (if r_1 = r_2 then rc v1 v2 (v3 + (1 : Int32)) m_2 else some (.inr ((v3, m_2)))))))
def L_X5_separation_2 (N : Nat) : Nat → Int32 → Int32 → Int32 → Mem → Option ((Mem) ⊕ (Int32 × Mem))
  | 0 => fun _ _ _ _ => none
  | n + 1 => T_X5_separation_2 N (L_X5_separation_2 N n)
def f_X5_separation (N : Nat) (v1 : Int32) (v2 : Int32) (m : Mem) : Option (Int32 × Mem) :=
  (L_X5_separation_2 N N v1 v2 (0 : Int32) m).bind (fun x9 => match x9 with | .inl (m_5) => some ((4 : Int32), m_5) | .inr ((v3_5, m_5)) => some (v3_5, m_5))
def f_X5_isBefore (N : Nat) (v1 : Int32) (v2 : Int32) (m : Mem) : Option (Int32 × Mem) :=
  b2 (f_X5_separation N v1 v2 m) (fun r_1 m_1 => b2 (f_X5_merit N r_1 v1 m_1) (fun r_2 m_2 => b2 (f_X5_merit N r_1 v2 m_2) (fun r_3 m_3 => (if r_2 ≤ r_3 then some ((0 : Int32), m_3) else some ((1 : Int32), m_3)))))
def T_X5_insert_5 (N : Nat) (rc : Int32 → Int32 → Mem → Option (Int32 × Int32 × Mem)) (v1 : Int32) (v2 : Int32) (m : Mem) : Option (Int32 × Int32 × Mem) :=
  (if v2 ≤ 0 then some ((v1, v2, m)) else gd (inb (v2 - (1 : Int32)) 16) (b2 (f_X5_isBefore N v1 (gI m 47 (v2 - (1 : Int32)).toNatClampNeg) m) (fun r_2 m_2 => (if r_2 = 0 then some ((v1, v2, m_2)) else gd (inb v2 16) (wr (sI m_2 47 v2.toNatClampNeg (gI m_2 47 (v2 - (1 : Int32)).toNatClampNeg)) (fun m_4 => rc v1 (v2 + (-1 : Int32)) m_4))))))
def L_X5_insert_5 (N : Nat) : Nat → Int32 → Int32 → Mem → Option (Int32 × Int32 × Mem)
  | 0 => fun _ _ _ => none
  | n + 1 => T_X5_insert_5 N (L_X5_insert_5 N n)
def B_X5_insert_45 (N : Nat) (v1 : Int32) (v2 : Int32) (m : Mem) : Option (Mem) :=
  gd (inb v2 16) (wr (sI m 47 v2.toNatClampNeg v1) (fun m_9 => wr (sI m_9 38 9 ((gI m_9 38 9) + (1 : Int32))) (fun m_10 => some (m_10))))
def f_X5_insert (N : Nat) (v1 : Int32) (m : Mem) : Option (Mem) :=
  l3 (L_X5_insert_5 N N v1 (gI m 38 9) m) (fun v1_7 v2_7 m_7 => B_X5_insert_45 N v1_7 v2_7 m_7)
def f_X5_isRanked (N : Nat) (v1 : Int32) (m : Mem) : Option (Int32 × Mem) :=
  gd (inb v1 16) ((if (gI m 42 v1.toNatClampNeg) ≤ 0 then some ((0 : Int32), m) else some ((1 : Int32), m)))
def f_J9_floorDiv_7cf53 (N : Nat) (v0 : Int32) (v1 : Int32) (m : Mem) : Option (Int32 × Mem) :=
  gd (!(v1 == 0)) ((if 0 ≤ (v0 ^^^ v1) then some (v0 / v1, m) else (if ((v0 / v1) * v1) = v0 then some (v0 / v1, m) else some ((v0 / v1) - (1 : Int32), m))))
def f_X5_adjustedScore (N : Nat) (v1 : Int32) (v2 : Int32) (m : Mem) : Option (Int32 × Mem) :=
  gd (inb v1 12) ((if (gI m 41 v1.toNatClampNeg) = 0 then some ((50000 : Int32), m) else b2 (f_J9_floorDiv_7cf53 N (((20000 : Int32) * (gI m 39 v1.toNatClampNeg)) * (((gI m 39 v1.toNatClampNeg) * v2) - (gI m 40 v1.toNatClampNeg))) (gI m 41 v1.toNatClampNeg) m) (fun r_2 m_2 => some ((50000 : Int32) + r_2, m_2))))
def f_X7_scoreAt (N : Nat) (v1 : Int32) (v2 : Int32) (m : Mem) : Option (Int32 × Mem) :=
  b2 (f_X9_cell N v1 v2 m) (fun r_1 m_1 => gd (inb r_1 192) (some (gI m_1 4 r_1.toNatClampNeg, m_1)))
def f_X7_hasScore (N : Nat) (v1 : Int32) (v2 : Int32) (m : Mem) : Option (Int32 × Mem) :=
  b2 (f_X7_scoreAt N v1 v2 m) (fun r_1 m_1 => (if r_1 ≤ 0 then some ((0 : Int32), m_1) else some ((1 : Int32), m_1)))
def B_X5_measureProposal_80 (N : Nat) (rc : Int32 → Int32 → Int32 → Int32 → Int32 → Int32 → Mem → Option (Int32 × Int32 × Int32 × Int32 × Int32 × Mem)) (v2 : Int32) (v3 : Int32) (v4 : Int32) (v5 : Int32) (v7 : Int32) (s0 : Int32) (s1 : Int32) (m : Mem) : Option (Int32 × Int32 × Int32 × Int32 × Int32 × Mem) :=
  rc v2 v3 v4 v5 (s1 + s0) (v7 + (1 : Int32)) m
def T_X5_measureProposal_15 (N : Nat) (rc : Int32 → Int32 → Int32 → Int32 → Int32 → Int32 → Mem → Option (Int32 × Int32 × Int32 × Int32 × Int32 × Mem)) (v2 : Int32) (v3 : Int32) (v4 : Int32) (v5 : Int32) (v6 : Int32) (v7 : Int32) (m : Mem) : Option (Int32 × Int32 × Int32 × Int32 × Int32 × Mem) :=
  (if (12 : Int32) ≤ v7 then some ((v2, v3, v4, v5, v6, m)) else b2 (f_X7_hasScore N v7 v2 m) (fun r_1 m_1 => (if r_1 = 0 then rc v2 v3 v4 v5 v6 (v7 + (1 : Int32)) m_1 else b2 (f_X7_scoreAt N v7 v2 m_1) (fun r_2 m_2 => b2 (f_X5_adjustedScore N v7 r_2 m_2) (fun r_3 m_3 => (if r_2 < (80 : Int32) then B_X5_measureProposal_80 N rc v2 (v3 + (1 : Int32)) (v4 + r_3) (if r_2 < v5 then r_2 else v5) v7 (0 : Int32) v6 m_3 else B_X5_measureProposal_80 N rc v2 (v3 + (1 : Int32)) (v4 + r_3) (if r_2 < v5 then r_2 else v5) v7 (1 : Int32) v6 m_3))))))
def L_X5_measureProposal_15 (N : Nat) : Nat → Int32 → Int32 → Int32 → Int32 → Int32 → Int32 → Mem → Option (Int32 × Int32 × Int32 × Int32 × Int32 × Mem)
  | 0 => fun _ _ _ _ _ _ _ => none
  | n + 1 => T_X5_measureProposal_15 N (L_X5_measureProposal_15 N n)
def B_X5_measureProposal_115 (N : Nat) (v2 : Int32) (v5 : Int32) (v6 : Int32) (s0 : Int32) (s1 : Int32) (m : Mem) : Option (Mem) :=
  gd (inb s1 16) (wr (sI m 43 s1.toNatClampNeg s0) (fun m_12 => gd (inb v2 16) (wr (sI m_12 44 v2.toNatClampNeg v5) (fun m_14 => wr (sI m_14 45 v2.toNatClampNeg v6) (fun m_15 => some (m_15))))))
def f_X5_measureProposal (N : Nat) (v2 : Int32) (m : Mem) : Option (Mem) :=
  l6 (L_X5_measureProposal_15 N N v2 (0 : Int32) (0 : Int32) (100 : Int32) (0 : Int32) (0 : Int32) m) (fun v2_7 v3_7 v4_7 v5_7 v6_7 m_7 => gd (inb v2_7 16) (wr (sI m_7 42 v2_7.toNatClampNeg v3_7) (fun m_9 => (if v3_7 = 0 then B_X5_measureProposal_115 N v2_7 v5_7 v6_7 (0 : Int32) v2_7 m_9 else b2 (f_J9_floorDiv_7cf53 N v4_7 v3_7 m_9) (fun r_10 m_10 => B_X5_measureProposal_115 N v2_7 v5_7 v6_7 r_10 v2_7 m_10)))))
def T_X5_measureReviewer_8 (N : Nat) (rc : Int32 → Int32 → Int32 → Int32 → Mem → Option (Int32 × Int32 × Int32 × Mem)) (v2 : Int32) (v3 : Int32) (v4 : Int32) (v5 : Int32) (m : Mem) : Option (Int32 × Int32 × Int32 × Mem) :=
  (if (16 : Int32) ≤ v5 then some ((v2, v3, v4, m)) else b2 (f_X7_hasScore N v2 v5 m) (fun r_1 m_1 => (if r_1 = 0 then rc v2 v3 v4 (v5 + (1 : Int32)) m_1 else b2 (f_X7_scoreAt N v2 v5 m_1) (fun r_2 m_2 => rc v2 (v3 + (1 : Int32)) (v4 + r_2) (v5 + (1 : Int32)) m_2))))
def L_X5_measureReviewer_8 (N : Nat) : Nat → Int32 → Int32 → Int32 → Int32 → Mem → Option (Int32 × Int32 × Int32 × Mem)
  | 0 => fun _ _ _ _ _ => none
  | n + 1 => T_X5_measureReviewer_8 N (L_X5_measureReviewer_8 N n)
def T_X5_measureReviewer_52 (N : Nat) (rc : Int32 → Int32 → Int32 → Int32 → Int32 → Mem → Option (Int32 × Int32 × Int32 × Int32 × Mem)) (v2 : Int32) (v3 : Int32) (v4 : Int32) (v5 : Int32) (v6 : Int32) (m : Mem) : Option (Int32 × Int32 × Int32 × Int32 × Mem) :=
  (if (16 : Int32) ≤ v6 then some ((v2, v3, v4, v5, m)) else b2 (f_X7_hasScore N v2 v6 m) (fun r_6 m_6 => (if r_6 = 0 then rc v2 v3 v4 v5 (v6 + (1 : Int32)) m_6 else b2 (f_X7_scoreAt N v2 v6 m_6) (fun r_7 m_7 => rc v2 v3 v4 (v5 + (if 0 ≤ ((v3 * r_7) - v4) then ((v3 * r_7) - v4) else 0 - ((v3 * r_7) - v4))) (v6 + (1 : Int32)) m_7))))
def L_X5_measureReviewer_52 (N : Nat) : Nat → Int32 → Int32 → Int32 → Int32 → Int32 → Mem → Option (Int32 × Int32 × Int32 × Int32 × Mem)
  | 0 => fun _ _ _ _ _ _ => none
  | n + 1 => T_X5_measureReviewer_52 N (L_X5_measureReviewer_52 N n)
def f_X5_measureReviewer (N : Nat) (v2 : Int32) (m : Mem) : Option (Mem) :=
  l4 (L_X5_measureReviewer_8 N N v2 (0 : Int32) (0 : Int32) (0 : Int32) m) (fun v2_5 v3_5 v4_5 m_5 => l5 (L_X5_measureReviewer_52 N N v2_5 v3_5 v4_5 (0 : Int32) (0 : Int32) m_5) (fun v2_10 v3_10 v4_10 v5_10 m_10 => gd (inb v2_10 12) (wr (sI m_10 39 v2_10.toNatClampNeg v3_10) (fun m_12 => wr (sI m_12 40 v2_10.toNatClampNeg v4_10) (fun m_13 => wr (sI m_13 41 v2_10.toNatClampNeg v5_10) (fun m_14 => some (m_14)))))))
def T_X5_update_2 (N : Nat) (rc : Nat → Int32 → Mem → Option (Nat × Mem)) (v1 : Nat) (v3 : Int32) (m : Mem) : Option (Nat × Mem) :=
  gd (kd v1 == 6) ((if (gI m v1 1) ≤ v3 then some ((v1, m)) else b1 (f_X5_measureReviewer N v3 m) (fun m_2 => rc v1 (v3 + (1 : Int32)) m_2)))
def L_X5_update_2 (N : Nat) : Nat → Nat → Int32 → Mem → Option (Nat × Mem)
  | 0 => fun _ _ _ => none
  | n + 1 => T_X5_update_2 N (L_X5_update_2 N n)
def T_X5_update_29 (N : Nat) (rc : Nat → Int32 → Mem → Option (Mem)) (v1 : Nat) (v3 : Int32) (m : Mem) : Option (Mem) :=
  gd (kd v1 == 6) ((if (gI m v1 2) ≤ v3 then some (m) else gd (okA 12 (rt v1 12) v3) (gd (inb v3 16) (wr (sI m 46 v3.toNatClampNeg (gI m (rt v1 12) v3.toNatClampNeg)) (fun m_9 => b1 (f_X5_measureProposal N v3 m_9) (fun m_10 => b2 (f_X5_isRanked N v3 m_10) (fun r_11 m_11 => (if r_11 = 0 then rc v1 (v3 + (1 : Int32)) m_11 else b1 (f_X5_insert N v3 m_11) (fun m_12 => rc v1 (v3 + (1 : Int32)) m_12)))))))))
def L_X5_update_29 (N : Nat) : Nat → Nat → Int32 → Mem → Option (Mem)
  | 0 => fun _ _ _ => none
  | n + 1 => T_X5_update_29 N (L_X5_update_29 N n)
def f_X5_update (N : Nat) (v1 : Nat) (m : Mem) : Option (Mem) :=
  l2 (L_X5_update_2 N N v1 (0 : Int32) m) (fun v1_4 m_4 => wr (sI m_4 38 9 (0 : Int32)) (fun m_5 => l1 (L_X5_update_29 N N v1_4 (0 : Int32) m_5) (fun  m_15 => some (m_15))))
def f_X6_clear (N : Nat) (v0 : Nat) (m : Mem) : Option (Mem) :=
  gd (kd v0 == 6) (wr (sI m v0 0 (0 : Int32)) (fun m_2 => wr (sI m_2 v0 1 (0 : Int32)) (fun m_3 => wr (sI m_3 v0 2 (0 : Int32)) (fun m_4 => b1 (f_J7_fill_53178 N (rt v0 8) (0 : Int32) m_4) (fun m_5 => wr (sI m_5 v0 14 (2 : Int32)) (fun m_6 => wr (sI m_6 v0 15 (20 : Int32)) (fun m_7 => wr (sI m_7 v0 16 (0 : Int32)) (fun m_8 => wr (sI m_8 v0 17 (0 : Int32)) (fun m_9 => some (m_9))))))))))
def f_X7_restart (N : Nat) (v1 : Nat) (m : Mem) : Option (Mem) :=
  b1 (f_J7_fill_53178 N 4 (0 : Int32) m) (fun m_1 => gd (kd v1 == 6) (gd (okC (rt v1 8) 5 (0 : Int32) (0 : Int32) (12 : Int32)) (wr (cpI m_1 (rt v1 8) (0 : Int32).toNatClampNeg 5 (0 : Int32).toNatClampNeg (12 : Int32).toNatClampNeg) (fun m_4 => wr (sI m_4 3 2 (0 : Int32)) (fun m_5 => wr (sI m_5 3 3 (gI m_5 v1 16)) (fun m_6 => some (m_6)))))))
def f_X7_put (N : Nat) (v1 : Int32) (v2 : Int32) (v3 : Int32) (m : Mem) : Option (Mem) :=
  b2 (f_X9_cell N v1 v2 m) (fun r_1 m_1 => gd (inb r_1 192) (wr (sI m_1 4 r_1.toNatClampNeg v3) (fun m_3 => some (m_3))))
def f_X7_hasReview (N : Nat) (v1 : Int32) (v2 : Int32) (m : Mem) : Option (Int32 × Mem) :=
  b2 (f_X7_scoreAt N v1 v2 m) (fun r_1 m_1 => (if r_1 = 0 then some ((0 : Int32), m_1) else some ((1 : Int32), m_1)))
def f_X7_addConflict (N : Nat) (v1 : Int32) (v2 : Int32) (m : Mem) : Option (Mem) :=
  gd (inb v1 12) (wr (sI m 5 v1.toNatClampNeg ((gI m 5 v1.toNatClampNeg) ||| ((1 : Int32) <<< (v2 &&& 31)))) (fun m_2 => some (m_2)))
def f_X7_isGranted (N : Nat) (v1 : Int32) (m : Mem) : Option (Int32 × Mem) :=
  (if (((gI m 3 2) >>> (v1 &&& 31)) &&& (1 : Int32)) = 0 then some ((0 : Int32), m) else some ((1 : Int32), m))
def f_X7_grantAppeal (N : Nat) (v1 : Int32) (m : Mem) : Option (Mem) :=
  wr (sI m 3 2 ((gI m 3 2) ||| ((1 : Int32) <<< (v1 &&& 31)))) (fun m_1 => some (m_1))
def T_X7_reviewsOfReviewer_4 (N : Nat) (rc : Int32 → Int32 → Int32 → Mem → Option (Int32 × Mem)) (v1 : Int32) (v2 : Int32) (v3 : Int32) (m : Mem) : Option (Int32 × Mem) :=
  (if (16 : Int32) ≤ v3 then some ((v2, m)) else b2 (f_X7_hasReview N v1 v3 m) (fun r_1 m_1 => (if r_1 = 0 then rc v1 v2 (v3 + (1 : Int32)) m_1 else rc v1 (v2 + (1 : Int32)) (v3 + (1 : Int32)) m_1)))
def L_X7_reviewsOfReviewer_4 (N : Nat) : Nat → Int32 → Int32 → Int32 → Mem → Option (Int32 × Mem)
  | 0 => fun _ _ _ _ => none
  | n + 1 => T_X7_reviewsOfReviewer_4 N (L_X7_reviewsOfReviewer_4 N n)
def f_X7_reviewsOfReviewer (N : Nat) (v1 : Int32) (m : Mem) : Option (Int32 × Mem) :=
  l2 (L_X7_reviewsOfReviewer_4 N N v1 (0 : Int32) (0 : Int32) m) (fun v2_4 m_4 => some (v2_4, m_4))
def T_X7_reviewsOfProposal_4 (N : Nat) (rc : Int32 → Int32 → Int32 → Mem → Option (Int32 × Mem)) (v1 : Int32) (v2 : Int32) (v3 : Int32) (m : Mem) : Option (Int32 × Mem) :=
  (if (12 : Int32) ≤ v3 then some ((v2, m)) else b2 (f_X7_hasReview N v3 v1 m) (fun r_1 m_1 => (if r_1 = 0 then rc v1 v2 (v3 + (1 : Int32)) m_1 else rc v1 (v2 + (1 : Int32)) (v3 + (1 : Int32)) m_1)))
def L_X7_reviewsOfProposal_4 (N : Nat) : Nat → Int32 → Int32 → Int32 → Mem → Option (Int32 × Mem)
  | 0 => fun _ _ _ _ => none
  | n + 1 => T_X7_reviewsOfProposal_4 N (L_X7_reviewsOfProposal_4 N n)
def f_X7_reviewsOfProposal (N : Nat) (v1 : Int32) (m : Mem) : Option (Int32 × Mem) :=
  l2 (L_X7_reviewsOfProposal_4 N N v1 (0 : Int32) (0 : Int32) m) (fun v2_4 m_4 => some (v2_4, m_4))
def T_X7_countReviews_13 (N : Nat) (rc : Int32 → Nat → Int32 → Int32 → Mem → Option (Int32 × Mem)) (v1 : Int32) (v2 : Nat) (v3 : Int32) (v4 : Int32) (m : Mem) : Option (Int32 × Mem) :=
  (if v3 ≤ v4 then some ((v1, m)) else gd (okA 12 v2 v4) ((if (gI m v2 v4.toNatClampNeg) = 0 then rc v1 v2 v3 (v4 + (1 : Int32)) m else rc (v1 + (1 : Int32)) v2 v3 (v4 + (1 : Int32)) m)))
def L_X7_countReviews_13 (N : Nat) : Nat → Int32 → Nat → Int32 → Int32 → Mem → Option (Int32 × Mem)
  | 0 => fun _ _ _ _ _ => none
  | n + 1 => T_X7_countReviews_13 N (L_X7_countReviews_13 N n)
def f_X7_countReviews (N : Nat)  (m : Mem) : Option (Int32 × Mem) :=
  l2 (L_X7_countReviews_13 N N (0 : Int32) 4 (192 : Int32) (0 : Int32) m) (fun v1_4 m_4 => some (v1_4, m_4))
def T_X7_countScores_13 (N : Nat) (rc : Int32 → Nat → Int32 → Int32 → Mem → Option (Int32 × Mem)) (v1 : Int32) (v2 : Nat) (v3 : Int32) (v4 : Int32) (m : Mem) : Option (Int32 × Mem) :=
  (if v3 ≤ v4 then some ((v1, m)) else gd (okA 12 v2 v4) ((if (gI m v2 v4.toNatClampNeg) ≤ 0 then rc v1 v2 v3 (v4 + (1 : Int32)) m else rc (v1 + (1 : Int32)) v2 v3 (v4 + (1 : Int32)) m)))
def L_X7_countScores_13 (N : Nat) : Nat → Int32 → Nat → Int32 → Int32 → Mem → Option (Int32 × Mem)
  | 0 => fun _ _ _ _ _ => none
  | n + 1 => T_X7_countScores_13 N (L_X7_countScores_13 N n)
def f_X7_countScores (N : Nat)  (m : Mem) : Option (Int32 × Mem) :=
  l2 (L_X7_countScores_13 N N (0 : Int32) 4 (192 : Int32) (0 : Int32) m) (fun v1_4 m_4 => some (v1_4, m_4))
def f_J6_bitCount_0f7a4 (N : Nat) (v0 : Int32) (m : Mem) : Option (Int32 × Mem) :=
  some ((((((((v0 - ((iushr v0 (1 : Int32)) &&& (1431655765 : Int32))) &&& (858993459 : Int32)) + ((iushr (v0 - ((iushr v0 (1 : Int32)) &&& (1431655765 : Int32))) (2 : Int32)) &&& (858993459 : Int32))) + (iushr (((v0 - ((iushr v0 (1 : Int32)) &&& (1431655765 : Int32))) &&& (858993459 : Int32)) + ((iushr (v0 - ((iushr v0 (1 : Int32)) &&& (1431655765 : Int32))) (2 : Int32)) &&& (858993459 : Int32))) (4 : Int32))) &&& (252645135 : Int32)) + (iushr (((((v0 - ((iushr v0 (1 : Int32)) &&& (1431655765 : Int32))) &&& (858993459 : Int32)) + ((iushr (v0 - ((iushr v0 (1 : Int32)) &&& (1431655765 : Int32))) (2 : Int32)) &&& (858993459 : Int32))) + (iushr (((v0 - ((iushr v0 (1 : Int32)) &&& (1431655765 : Int32))) &&& (858993459 : Int32)) + ((iushr (v0 - ((iushr v0 (1 : Int32)) &&& (1431655765 : Int32))) (2 : Int32)) &&& (858993459 : Int32))) (4 : Int32))) &&& (252645135 : Int32)) (8 : Int32))) + (iushr ((((((v0 - ((iushr v0 (1 : Int32)) &&& (1431655765 : Int32))) &&& (858993459 : Int32)) + ((iushr (v0 - ((iushr v0 (1 : Int32)) &&& (1431655765 : Int32))) (2 : Int32)) &&& (858993459 : Int32))) + (iushr (((v0 - ((iushr v0 (1 : Int32)) &&& (1431655765 : Int32))) &&& (858993459 : Int32)) + ((iushr (v0 - ((iushr v0 (1 : Int32)) &&& (1431655765 : Int32))) (2 : Int32)) &&& (858993459 : Int32))) (4 : Int32))) &&& (252645135 : Int32)) + (iushr (((((v0 - ((iushr v0 (1 : Int32)) &&& (1431655765 : Int32))) &&& (858993459 : Int32)) + ((iushr (v0 - ((iushr v0 (1 : Int32)) &&& (1431655765 : Int32))) (2 : Int32)) &&& (858993459 : Int32))) + (iushr (((v0 - ((iushr v0 (1 : Int32)) &&& (1431655765 : Int32))) &&& (858993459 : Int32)) + ((iushr (v0 - ((iushr v0 (1 : Int32)) &&& (1431655765 : Int32))) (2 : Int32)) &&& (858993459 : Int32))) (4 : Int32))) &&& (252645135 : Int32)) (8 : Int32))) (16 : Int32))) &&& (63 : Int32), m)
def T_X7_countDeclared_13 (N : Nat) (rc : Int32 → Nat → Int32 → Int32 → Mem → Option (Int32 × Mem)) (v1 : Int32) (v2 : Nat) (v3 : Int32) (v4 : Int32) (m : Mem) : Option (Int32 × Mem) :=
  (if v3 ≤ v4 then some ((v1, m)) else gd (okA 12 v2 v4) (b2 (f_J6_bitCount_0f7a4 N (gI m v2 v4.toNatClampNeg) m) (fun r_2 m_2 => rc (v1 + r_2) v2 v3 (v4 + (1 : Int32)) m_2)))
def L_X7_countDeclared_13 (N : Nat) : Nat → Int32 → Nat → Int32 → Int32 → Mem → Option (Int32 × Mem)
  | 0 => fun _ _ _ _ _ => none
  | n + 1 => T_X7_countDeclared_13 N (L_X7_countDeclared_13 N n)
def f_X7_countDeclared (N : Nat)  (m : Mem) : Option (Int32 × Mem) :=
  l2 (L_X7_countDeclared_13 N N (0 : Int32) 5 (12 : Int32) (0 : Int32) m) (fun v1_4 m_4 => some (v1_4, m_4))
def T_X8_put_3 (N : Nat) (rc : Int32 → Int32 → Mem → Option (Mem)) (v1 : Int32) (v2 : Int32) (m : Mem) : Option (Mem) :=
  (if v2 < 0 then some (m) else (if (800 : Int32) ≤ (gI m 1 1) then some (m) else gd (inb (gI m 1 1) 800) (wr (sI m 2 (gI m 1 1).toNatClampNeg (vp_nar .byte ((v1 >>> (v2 &&& 31)).toInt8.toInt32))) (fun m_2 => wr (sI m_2 1 1 ((gI m_2 1 1) + (1 : Int32))) (fun m_3 => rc v1 (v2 + (-8 : Int32)) m_3)))))
def L_X8_put_3 (N : Nat) : Nat → Int32 → Int32 → Mem → Option (Mem)
  | 0 => fun _ _ _ => none
  | n + 1 => T_X8_put_3 N (L_X8_put_3 N n)
def f_X8_put (N : Nat) (v1 : Int32) (m : Mem) : Option (Mem) :=
  l1 (L_X8_put_3 N N v1 (24 : Int32) m) (fun  m_6 => some (m_6))
def T_X8_evaluate_30 (N : Nat) (rc : Int32 → Mem → Option (Mem)) (v1 : Int32) (m : Mem) : Option (Mem) :=
  (if (gI m 1 6) ≤ v1 then some (m) else gd (inb v1 800) (wr (sI m 1 7 ((((10 : Int32) * (gI m 1 7)) + (gI m 2 v1.toNatClampNeg)) - (48 : Int32))) (fun m_3 => rc (v1 + (1 : Int32)) m_3)))
def L_X8_evaluate_30 (N : Nat) : Nat → Int32 → Mem → Option (Mem)
  | 0 => fun _ _ => none
  | n + 1 => T_X8_evaluate_30 N (L_X8_evaluate_30 N n)
def f_X8_evaluate (N : Nat)  (m : Mem) : Option (Mem) :=
  (if ((gI m 1 6) - (gI m 1 5)) ≤ (6 : Int32) then wr (sI m 1 7 (0 : Int32)) (fun m_1 => l1 (L_X8_evaluate_30 N N (gI m_1 1 5) m_1) (fun  m_5 => some (m_5))) else wr (sI m 1 4 (5 : Int32)) (fun m_6 => some (m_6)))
def B_X8_kindOf_42 (N : Nat) (v0 : Int32) (m : Mem) : Option (Int32 × Mem) :=
  (if v0 = (59 : Int32) then some ((4 : Int32), m) else some ((5 : Int32), m))
def B_X8_kindOf_28 (N : Nat) (v0 : Int32) (m : Mem) : Option (Int32 × Mem) :=
  (if v0 < (48 : Int32) then B_X8_kindOf_42 N v0 m else (if (57 : Int32) < v0 then B_X8_kindOf_42 N v0 m else some ((3 : Int32), m)))
def f_X8_kindOf (N : Nat) (v0 : Int32) (m : Mem) : Option (Int32 × Mem) :=
  (if v0 = (10 : Int32) then some ((1 : Int32), m) else (if v0 = (32 : Int32) then some ((1 : Int32), m) else (if v0 < (97 : Int32) then B_X8_kindOf_28 N v0 m else (if (122 : Int32) < v0 then B_X8_kindOf_28 N v0 m else some ((2 : Int32), m)))))
def T_X8_nextToken_0 (N : Nat) (rc : Mem → Option (Mem))  (m : Mem) : Option (Mem) :=
  (if (gI m 1 1) ≤ (gI m 1 6) then some (m) else gd (inb (gI m 1 6) 800) (b2 (f_X8_kindOf N (gI m 2 (gI m 1 6).toNatClampNeg) m) (fun r_2 m_2 => (if r_2 = (1 : Int32) then wr (sI m_2 1 6 ((gI m_2 1 6) + (1 : Int32))) (fun m_3 => rc  m_3) else some (m_2)))))
def L_X8_nextToken_0 (N : Nat) : Nat → Mem → Option (Mem)
  | 0 => fun _ => none
  | n + 1 => T_X8_nextToken_0 N (L_X8_nextToken_0 N n)
def T_X8_nextToken_116 (N : Nat) (rc : Mem → Option (Mem))  (m : Mem) : Option (Mem) :=
  (if (gI m 1 1) ≤ (gI m 1 6) then some (m) else gd (inb (gI m 1 6) 800) (b2 (f_X8_kindOf N (gI m 2 (gI m 1 6).toNatClampNeg) m) (fun r_10 m_10 => (if r_10 = (gI m_10 1 4) then wr (sI m_10 1 6 ((gI m_10 1 6) + (1 : Int32))) (fun m_11 => rc  m_11) else some (m_10)))))
def L_X8_nextToken_116 (N : Nat) : Nat → Mem → Option (Mem)
  | 0 => fun _ => none
  | n + 1 => T_X8_nextToken_116 N (L_X8_nextToken_116 N n)
def B_X8_nextToken_159 (N : Nat)  (m : Mem) : Option (Mem) :=
  (if (gI m 1 4) = (3 : Int32) then b1 (f_X8_evaluate N  m) (fun m_15 => some (m_15)) else some (m))
def B_X8_nextToken_76 (N : Nat) (s0 : Int32) (m : Mem) : Option (Mem) :=
  wr (sI m 1 4 s0) (fun m_8 => (if (gI m_8 1 4) = (4 : Int32) then wr (sI m_8 1 6 ((gI m_8 1 6) + (1 : Int32))) (fun m_20 => B_X8_nextToken_159 N  m_20) else (if (gI m_8 1 4) = (2 : Int32) then l1 (L_X8_nextToken_116 N N  m_8) (fun  m_14 => B_X8_nextToken_159 N  m_14) else (if (gI m_8 1 4) = (3 : Int32) then l1 (L_X8_nextToken_116 N N  m_8) (fun  m_17 => B_X8_nextToken_159 N  m_17) else B_X8_nextToken_159 N  m_8))))
def B_X8_nextToken_40 (N : Nat)  (m : Mem) : Option (Mem) :=
  wr (sI m 1 5 (gI m 1 6)) (fun m_7 => (if (gI m_7 1 1) ≤ (gI m_7 1 6) then B_X8_nextToken_76 N (0 : Int32) m_7 else gd (inb (gI m_7 1 6) 800) (b2 (f_X8_kindOf N (gI m_7 2 (gI m_7 1 6).toNatClampNeg) m_7) (fun r_23 m_23 => B_X8_nextToken_76 N r_23 m_23))))
def f_X8_nextToken (N : Nat)  (m : Mem) : Option (Mem) :=
  l1 (L_X8_nextToken_0 N N  m) (fun  m_6 => B_X8_nextToken_40 N  m_6)
def B_X8_fail_20 (N : Nat)  (m : Mem) : Option (Mem) :=
  wr (sI m 1 4 (5 : Int32)) (fun m_1 => some (m_1))
def f_X8_fail (N : Nat) (v1 : Int32) (m : Mem) : Option (Mem) :=
  (if (gI m 1 2) = 0 then wr (sI m 1 2 v1) (fun m_2 => wr (sI m_2 1 3 (gI m_2 1 5)) (fun m_3 => B_X8_fail_20 N  m_3)) else B_X8_fail_20 N  m)
def f_X8_readSemicolon (N : Nat)  (m : Mem) : Option (Mem) :=
  (if (gI m 1 4) = (4 : Int32) then b1 (f_X8_nextToken N  m) (fun m_1 => some (m_1)) else b1 (f_X8_fail N (1 : Int32) m) (fun m_2 => some (m_2)))
def T_X8_isWord_28 (N : Nat) (rc : Nat → Int32 → Mem → Option ((Mem) ⊕ (Mem))) (v1 : Nat) (v2 : Int32) (m : Mem) : Option ((Mem) ⊕ (Mem)) :=
  gd (decide (v1 < nST)) ((if (strL v1) ≤ v2 then some (.inl (m)) else gd (inb ((gI m 1 5) + v2) 800) (gd (okS v1 v2) ((if (gI m 2 ((gI m 1 5) + v2).toNatClampNeg) = (strC v1 v2) then rc v1 (v2 + (1 : Int32)) m else some (.inr (m)))))))
def L_X8_isWord_28 (N : Nat) : Nat → Nat → Int32 → Mem → Option ((Mem) ⊕ (Mem))
  | 0 => fun _ _ _ => none
  | n + 1 => T_X8_isWord_28 N (L_X8_isWord_28 N n)
def f_X8_isWord (N : Nat) (v1 : Nat) (m : Mem) : Option (Int32 × Mem) :=
  (if (gI m 1 4) = (2 : Int32) then gd (decide (v1 < nST)) ((if ((gI m 1 6) - (gI m 1 5)) = (strL v1) then (L_X8_isWord_28 N N v1 (0 : Int32) m).bind (fun x9 => match x9 with | .inl (m_7) => some ((1 : Int32), m_7) | .inr (m_7) => some ((0 : Int32), m_7)) else some ((0 : Int32), m))) else some ((0 : Int32), m))
def B_X8_readNumber_31 (N : Nat)  (m : Mem) : Option (Int32 × Mem) :=
  b1 (f_X8_fail N (2 : Int32) m) (fun m_1 => some ((-1 : Int32), m_1))
def f_X8_readNumber (N : Nat) (v1 : Int32) (v2 : Int32) (m : Mem) : Option (Int32 × Mem) :=
  (if (gI m 1 4) = (3 : Int32) then (if (gI m 1 7) < v1 then B_X8_readNumber_31 N  m else (if (gI m 1 7) ≤ v2 then b1 (f_X8_nextToken N  m) (fun m_2 => some (gI m 1 7, m_2)) else B_X8_readNumber_31 N  m)) else b1 (f_X8_fail N (1 : Int32) m) (fun m_5 => some ((-1 : Int32), m_5)))
def f_X8_readConflict (N : Nat) (v1 : Nat) (m : Mem) : Option (Mem) :=
  b1 (f_X8_nextToken N  m) (fun m_1 => gd (kd v1 == 6) (b2 (f_X8_readNumber N (0 : Int32) ((gI m_1 v1 1) - (1 : Int32)) m_1) (fun r_3 m_3 => b2 (f_X8_readNumber N (0 : Int32) ((gI m_3 v1 2) - (1 : Int32)) m_3) (fun r_4 m_4 => (if r_3 = (-1 : Int32) then some (m_4) else (if r_4 = (-1 : Int32) then some (m_4) else gd (okA 12 (rt v1 8) r_3) (wr (sI m_4 (rt v1 8) r_3.toNatClampNeg ((gI m_4 (rt v1 8) r_3.toNatClampNeg) ||| ((1 : Int32) <<< (r_4 &&& 31)))) (fun m_6 => some (m_6)))))))))
def f_X8_readPanel (N : Nat) (v1 : Nat) (m : Mem) : Option (Mem) :=
  gd (kd v1 == 6) ((if (gI m v1 0) < (4 : Int32) then b1 (f_X8_nextToken N  m) (fun m_2 => b2 (f_X8_readNumber N (0 : Int32) (100000 : Int32) m_2) (fun r_3 m_3 => gd (okA 12 (rt v1 3) (gI m v1 0)) (wr (sI m_3 (rt v1 3) (gI m v1 0).toNatClampNeg r_3) (fun m_5 => wr (sI m_5 v1 0 ((gI m v1 0) + (1 : Int32))) (fun m_6 => some (m_6)))))) else b1 (f_X8_fail N (3 : Int32) m) (fun m_7 => some (m_7))))
def B_X8_readProposal_112 (N : Nat) (v1 : Nat) (v2 : Int32) (m : Mem) : Option (Mem) :=
  gd (kd v1 == 6) (wr (sI m v1 2 (v2 + (1 : Int32))) (fun m_19 => some (m_19)))
def f_X8_readProposal (N : Nat) (v1 : Nat) (m : Mem) : Option (Mem) :=
  gd (kd v1 == 6) ((if (gI m v1 2) < (16 : Int32) then b1 (f_X8_nextToken N  m) (fun m_2 => b2 (f_X8_readNumber N (0 : Int32) ((gI m_2 v1 0) - (1 : Int32)) m_2) (fun r_3 m_3 => gd (okA 12 (rt v1 9) (gI m v1 2)) (wr (sI m_3 (rt v1 9) (gI m v1 2).toNatClampNeg r_3) (fun m_5 => b2 (f_X8_readNumber N (0 : Int32) (9 : Int32) m_5) (fun r_6 m_6 => gd (okA 12 (rt v1 10) (gI m v1 2)) (wr (sI m_6 (rt v1 10) (gI m v1 2).toNatClampNeg r_6) (fun m_8 => b2 (f_X8_readNumber N (0 : Int32) (7 : Int32) m_8) (fun r_9 m_9 => gd (okA 12 (rt v1 11) (gI m v1 2)) (wr (sI m_9 (rt v1 11) (gI m v1 2).toNatClampNeg r_9) (fun m_11 => b2 (f_X8_readNumber N (1 : Int32) (9999 : Int32) m_11) (fun r_12 m_12 => gd (okA 12 (rt v1 12) (gI m v1 2)) (wr (sI m_12 (rt v1 12) (gI m v1 2).toNatClampNeg r_12) (fun m_14 => gd (okA 12 (rt v1 13) (gI m v1 2)) (wr (sI m_14 (rt v1 13) (gI m v1 2).toNatClampNeg r_12) (fun m_16 => b2 (f_X8_isWord N 4 m_16) (fun r_17 m_17 => (if r_17 = 0 then B_X8_readProposal_112 N v1 (gI m v1 2) m_17 else b1 (f_X8_nextToken N  m_17) (fun m_20 => b2 (f_X8_readNumber N (1 : Int32) r_12 m_20) (fun r_21 m_21 => wr (sI m_21 (rt v1 13) (gI m v1 2).toNatClampNeg r_21) (fun m_22 => B_X8_readProposal_112 N v1 (gI m v1 2) m_22)))))))))))))))))))) else b1 (f_X8_fail N (3 : Int32) m) (fun m_24 => some (m_24))))
def f_X8_readTopicsWord (N : Nat)  (m : Mem) : Option (Mem) :=
  b2 (f_X8_isWord N 2 m) (fun r_1 m_1 => (if r_1 = 0 then b1 (f_X8_fail N (1 : Int32) m_1) (fun m_3 => some (m_3)) else b1 (f_X8_nextToken N  m_1) (fun m_2 => some (m_2))))
def B_X8_readReviewer_94 (N : Nat) (rc : Nat → Int32 → Int32 → Int32 → Mem → Option (Nat × Int32 × Int32 × Mem)) (v1 : Nat) (v2 : Int32) (v3 : Int32) (v4 : Int32) (m : Mem) : Option (Nat × Int32 × Int32 × Mem) :=
  b2 (f_X8_readNumber N (0 : Int32) (7 : Int32) m) (fun r_13 m_13 => (if r_13 = (-1 : Int32) then rc v1 v2 v3 (v4 + (1 : Int32)) m_13 else rc v1 v2 (v3 ||| ((1 : Int32) <<< (r_13 &&& 31))) (v4 + (1 : Int32)) m_13))
def T_X8_readReviewer_73 (N : Nat) (rc : Nat → Int32 → Int32 → Int32 → Mem → Option (Nat × Int32 × Int32 × Mem)) (v1 : Nat) (v2 : Int32) (v3 : Int32) (v4 : Int32) (m : Mem) : Option (Nat × Int32 × Int32 × Mem) :=
  (if (800 : Int32) ≤ v4 then some ((v1, v2, v3, m)) else (if v4 = 0 then B_X8_readReviewer_94 N rc v1 v2 v3 v4 m else (if (gI m 1 4) = (3 : Int32) then B_X8_readReviewer_94 N rc v1 v2 v3 v4 m else some ((v1, v2, v3, m)))))
def L_X8_readReviewer_73 (N : Nat) : Nat → Nat → Int32 → Int32 → Int32 → Mem → Option (Nat × Int32 × Int32 × Mem)
  | 0 => fun _ _ _ _ _ => none
  | n + 1 => T_X8_readReviewer_73 N (L_X8_readReviewer_73 N n)
def B_X8_readReviewer_122 (N : Nat) (v1 : Nat) (v2 : Int32) (v3 : Int32) (m : Mem) : Option (Mem) :=
  gd (kd v1 == 6) (gd (okA 12 (rt v1 7) v2) (wr (sI m (rt v1 7) v2.toNatClampNeg v3) (fun m_21 => wr (sI m_21 v1 1 (v2 + (1 : Int32))) (fun m_22 => some (m_22)))))
def f_X8_readReviewer (N : Nat) (v1 : Nat) (m : Mem) : Option (Mem) :=
  gd (kd v1 == 6) ((if (gI m v1 1) < (12 : Int32) then b1 (f_X8_nextToken N  m) (fun m_2 => b2 (f_X8_readNumber N (0 : Int32) ((gI m_2 v1 0) - (1 : Int32)) m_2) (fun r_3 m_3 => gd (okA 12 (rt v1 4) (gI m v1 1)) (wr (sI m_3 (rt v1 4) (gI m v1 1).toNatClampNeg r_3) (fun m_5 => b2 (f_X8_readNumber N (0 : Int32) (9 : Int32) m_5) (fun r_6 m_6 => gd (okA 12 (rt v1 5) (gI m v1 1)) (wr (sI m_6 (rt v1 5) (gI m v1 1).toNatClampNeg r_6) (fun m_8 => b2 (f_X8_readNumber N (1 : Int32) (10 : Int32) m_8) (fun r_9 m_9 => gd (okA 12 (rt v1 6) (gI m v1 1)) (wr (sI m_9 (rt v1 6) (gI m v1 1).toNatClampNeg r_9) (fun m_11 => b1 (f_X8_readTopicsWord N  m_11) (fun m_12 => l4 (L_X8_readReviewer_73 N N v1 (gI m v1 1) (0 : Int32) (0 : Int32) m_12) (fun v1_18 v2_18 v3_18 m_18 => B_X8_readReviewer_122 N v1_18 v2_18 v3_18 m_18)))))))))))) else b1 (f_X8_fail N (3 : Int32) m) (fun m_23 => some (m_23))))
def f_X8_readSetting (N : Nat) (v1 : Nat) (m : Mem) : Option (Mem) :=
  b2 (f_X8_isWord N 6 m) (fun r_1 m_1 => (if r_1 = 0 then b2 (f_X8_isWord N 7 m_1) (fun r_2 m_2 => (if r_2 = 0 then b2 (f_X8_isWord N 8 m_2) (fun r_3 m_3 => (if r_3 = 0 then b2 (f_X8_isWord N 9 m_3) (fun r_4 m_4 => (if r_4 = 0 then b1 (f_X8_fail N (1 : Int32) m_4) (fun m_5 => some (m_5)) else b1 (f_X8_nextToken N  m_4) (fun m_6 => b2 (f_X8_readNumber N (0 : Int32) (99 : Int32) m_6) (fun r_7 m_7 => gd (kd v1 == 6) (wr (sI m_7 v1 15 r_7) (fun m_9 => some (m_9))))))) else b1 (f_X8_nextToken N  m_3) (fun m_11 => b2 (f_X8_readNumber N (0 : Int32) (100000 : Int32) m_11) (fun r_12 m_12 => gd (kd v1 == 6) (wr (sI m_12 v1 17 r_12) (fun m_14 => some (m_14))))))) else b1 (f_X8_nextToken N  m_2) (fun m_16 => b2 (f_X8_readNumber N (0 : Int32) (100000 : Int32) m_16) (fun r_17 m_17 => gd (kd v1 == 6) (wr (sI m_17 v1 16 r_17) (fun m_19 => some (m_19))))))) else b1 (f_X8_nextToken N  m_1) (fun m_21 => b2 (f_X8_readNumber N (1 : Int32) (4 : Int32) m_21) (fun r_22 m_22 => gd (kd v1 == 6) (wr (sI m_22 v1 14 r_22) (fun m_24 => some (m_24)))))))
def f_X8_readStatement (N : Nat) (v1 : Nat) (m : Mem) : Option (Mem) :=
  b2 (f_X8_isWord N 0 m) (fun r_1 m_1 => (if r_1 = 0 then b2 (f_X8_isWord N 1 m_1) (fun r_2 m_2 => (if r_2 = 0 then b2 (f_X8_isWord N 3 m_2) (fun r_3 m_3 => (if r_3 = 0 then b2 (f_X8_isWord N 5 m_3) (fun r_4 m_4 => (if r_4 = 0 then b1 (f_X8_readSetting N v1 m_4) (fun m_5 => some (m_5)) else b1 (f_X8_readConflict N v1 m_4) (fun m_6 => some (m_6)))) else b1 (f_X8_readProposal N v1 m_3) (fun m_8 => some (m_8)))) else b1 (f_X8_readReviewer N v1 m_2) (fun m_10 => some (m_10)))) else b1 (f_X8_readPanel N v1 m_1) (fun m_12 => some (m_12))))
def T_X8_read_25 (N : Nat) (rc : Nat → Int32 → Mem → Option (Mem)) (v1 : Nat) (v2 : Int32) (m : Mem) : Option (Mem) :=
  (if (800 : Int32) ≤ v2 then some (m) else (if (gI m 1 4) = 0 then some (m) else (if (gI m 1 2) = 0 then b1 (f_X8_readStatement N v1 m) (fun m_7 => b1 (f_X8_readSemicolon N  m_7) (fun m_8 => rc v1 (v2 + (1 : Int32)) m_8)) else some (m))))
def L_X8_read_25 (N : Nat) : Nat → Nat → Int32 → Mem → Option (Mem)
  | 0 => fun _ _ _ => none
  | n + 1 => T_X8_read_25 N (L_X8_read_25 N n)
def B_X8_read_61 (N : Nat)  (m : Mem) : Option (Int32 × Mem) :=
  (if (gI m 1 2) = 0 then some ((1 : Int32), m) else some ((0 : Int32), m))
def f_X8_read (N : Nat) (v1 : Nat) (m : Mem) : Option (Int32 × Mem) :=
  gd (kd v1 == 6) (b1 (f_X6_clear N v1 m) (fun m_2 => wr (sI m_2 1 2 (0 : Int32)) (fun m_3 => wr (sI m_3 1 3 (-1 : Int32)) (fun m_4 => wr (sI m_4 1 6 (0 : Int32)) (fun m_5 => b1 (f_X8_nextToken N  m_5) (fun m_6 => l1 (L_X8_read_25 N N v1 (0 : Int32) m_6) (fun  m_12 => B_X8_read_61 N  m_12)))))))
def f_X9_append (N : Nat) (v1 : Int32) (v2 : Int32) (v3 : Int32) (v4 : Int32) (v5 : Int32) (m : Mem) : Option ((Int32 ⊕ Nat) × Mem) :=
  (if (gI m 1 1) ≤ (780 : Int32) then b1 (f_X8_put N v1 m) (fun m_1 => b1 (f_X8_put N v2 m_1) (fun m_2 => b1 (f_X8_put N v3 m_2) (fun m_3 => b1 (f_X8_put N v4 m_3) (fun m_4 => b1 (f_X8_put N v5 m_4) (fun m_5 => some (.inl (gI m_5 1 1), m_5)))))) else some (.inr 0, m))
def B_X9_truncate_15 (N : Nat)  (m : Mem) : Option ((Int32 ⊕ Nat) × Mem) :=
  some (.inr 2, m)
def f_X9_truncate (N : Nat) (v1 : Int32) (m : Mem) : Option ((Int32 ⊕ Nat) × Mem) :=
  (if v1 < 0 then B_X9_truncate_15 N  m else (if v1 ≤ (gI m 1 1) then wr (sI m 1 1 v1) (fun m_1 => some (.inl v1, m_1)) else B_X9_truncate_15 N  m))
def f_X9_load (N : Nat)  (m : Mem) : Option ((Int32 ⊕ Nat) × Mem) :=
  b2 (f_X8_read N (gR m 0 8) m) (fun r_1 m_1 => wr (sI m_1 1 1 (0 : Int32)) (fun m_2 => (if r_1 = 0 then some (.inr 1, m_2) else wr (sR m_2 0 8 (gR m_2 0 7)) (fun m_3 => wr (sR m_3 0 7 (gR m_2 0 8)) (fun m_4 => b1 (f_X7_restart N (gR m_4 0 7) m_4) (fun m_5 => b1 (f_X2_clear N  m_5) (fun m_6 => gd (kd (gR m_6 0 7) == 6) (some (.inl (gI m_6 (gR m_6 0 7) 2), m_6)))))))))
def f_X9_errorCode (N : Nat)  (m : Mem) : Option (Int32 × Mem) :=
  some (gI m 1 2, m)
def f_X9_errorPosition (N : Nat)  (m : Mem) : Option (Int32 × Mem) :=
  some (gI m 1 3, m)
def f_X9_count (N : Nat) (v1 : Int32) (m : Mem) : Option ((Int32 ⊕ Nat) × Mem) :=
  (if v1 = (0 : Int32) then gd (kd (gR m 0 7) == 6) (some (.inl (gI m (gR m 0 7) 0), m)) else if v1 = (1 : Int32) then gd (kd (gR m 0 7) == 6) (some (.inl (gI m (gR m 0 7) 1), m)) else if v1 = (2 : Int32) then gd (kd (gR m 0 7) == 6) (some (.inl (gI m (gR m 0 7) 2), m)) else if v1 = (3 : Int32) then b2 (f_X7_countReviews N  m) (fun r_7 m_7 => some (.inl r_7, m_7)) else if v1 = (4 : Int32) then b2 (f_X7_countScores N  m) (fun r_9 m_9 => some (.inl r_9, m_9)) else if v1 = (5 : Int32) then b2 (f_X7_countDeclared N  m) (fun r_11 m_11 => some (.inl r_11, m_11)) else if v1 = (6 : Int32) then b2 (f_J6_bitCount_0f7a4 N (gI m 3 2) m) (fun r_13 m_13 => some (.inl r_13, m_13)) else some (.inr 1, m))
def B_X9_checkProposal_15 (N : Nat)  (m : Mem) : Option ((Unit ⊕ Nat) × Mem) :=
  some (.inr 2, m)
def f_X9_checkProposal (N : Nat) (v1 : Int32) (m : Mem) : Option ((Unit ⊕ Nat) × Mem) :=
  (if v1 < 0 then B_X9_checkProposal_15 N  m else gd (kd (gR m 0 7) == 6) ((if v1 < (gI m (gR m 0 7) 2) then some (.inl (), m) else B_X9_checkProposal_15 N  m)))
def B_X9_checkReviewer_15 (N : Nat)  (m : Mem) : Option ((Unit ⊕ Nat) × Mem) :=
  some (.inr 2, m)
def f_X9_checkReviewer (N : Nat) (v1 : Int32) (m : Mem) : Option ((Unit ⊕ Nat) × Mem) :=
  (if v1 < 0 then B_X9_checkReviewer_15 N  m else gd (kd (gR m 0 7) == 6) ((if v1 < (gI m (gR m 0 7) 1) then some (.inl (), m) else B_X9_checkReviewer_15 N  m)))
def f_X9_checkPair (N : Nat) (v1 : Int32) (v2 : Int32) (m : Mem) : Option ((Unit ⊕ Nat) × Mem) :=
  x1 (f_X9_checkReviewer N v1 m) (fun m_1 => x1 (f_X9_checkProposal N v2 m_1) (fun m_2 => some (.inl (), m_2)))
def f_X9_isConflict (N : Nat) (v1 : Int32) (v2 : Int32) (m : Mem) : Option ((Int32 ⊕ Nat) × Mem) :=
  x1 (f_X9_checkPair N v1 v2 m) (fun m_1 => b2 (f_X9_hasConflict N (gR m_1 0 7) v1 v2 m_1) (fun r_2 m_2 => gd (isB r_2) (some (.inl r_2, m_2))))
def f_X9_match (N : Nat) (v1 : Int32) (v2 : Int32) (m : Mem) : Option ((Int32 ⊕ Nat) × Mem) :=
  x1 (f_X9_checkPair N v1 v2 m) (fun m_1 => gd (kd (gR m_1 0 7) == 6) (b2 (f_X6_matchOf N (gR m_1 0 7) v1 v2 m_1) (fun r_3 m_3 => some (.inl r_3, m_3))))
def B_X9_declare_56 (N : Nat) (v1 : Int32) (v2 : Int32) (s0 : Int32) (m : Mem) : Option ((Int32 ⊕ Nat) × Mem) :=
  b1 (f_X7_addConflict N v1 v2 m) (fun m_5 => gd (isB s0) (some (.inl s0, m_5)))
def f_X9_declare (N : Nat) (v1 : Int32) (v2 : Int32) (m : Mem) : Option ((Int32 ⊕ Nat) × Mem) :=
  x1 (f_X9_checkPair N v1 v2 m) (fun m_1 => b2 (f_X7_hasReview N v1 v2 m_1) (fun r_2 m_2 => (if r_2 = 0 then b1 (f_X2_remember N  m_2) (fun m_3 => b2 (f_X7_isDeclared N v1 v2 m_3) (fun r_4 m_4 => (if r_4 = 0 then B_X9_declare_56 N v1 v2 (1 : Int32) m_4 else B_X9_declare_56 N v1 v2 (0 : Int32) m_4))) else some (.inr 0, m_2))))
def B_X9_canTake_36 (N : Nat)  (m : Mem) : Option (Int32 × Mem) :=
  some ((0 : Int32), m)
def f_X9_canTake (N : Nat) (v1 : Int32) (v2 : Int32) (m : Mem) : Option (Int32 × Mem) :=
  b2 (f_X7_hasReview N v1 v2 m) (fun r_1 m_1 => (if r_1 = 0 then b2 (f_X7_reviewsOfReviewer N v1 m_1) (fun r_2 m_2 => gd (kd (gR m_2 0 7) == 6) (gd (okA 12 (rt (gR m_2 0 7) 6) v1) ((if (gI m_2 (rt (gR m_2 0 7) 6) v1.toNatClampNeg) ≤ r_2 then B_X9_canTake_36 N  m_2 else some ((1 : Int32), m_2))))) else B_X9_canTake_36 N  m_1))
def B_X9_assign_59 (N : Nat)  (m : Mem) : Option ((Int32 ⊕ Nat) × Mem) :=
  some (.inr 0, m)
def f_X9_assign (N : Nat) (v1 : Int32) (v2 : Int32) (m : Mem) : Option ((Int32 ⊕ Nat) × Mem) :=
  x1 (f_X9_checkPair N v1 v2 m) (fun m_1 => b2 (f_X9_fits N (gR m_1 0 7) v1 v2 m_1) (fun r_2 m_2 => (if r_2 = 0 then some (.inr 1, m_2) else b2 (f_X9_canTake N v1 v2 m_2) (fun r_3 m_3 => (if r_3 = 0 then B_X9_assign_59 N  m_3 else b2 (f_X7_reviewsOfProposal N v2 m_3) (fun r_4 m_4 => gd (kd (gR m_4 0 7) == 6) ((if r_4 < (gI m_4 (gR m_4 0 7) 14) then b1 (f_X2_remember N  m_4) (fun m_6 => b1 (f_X7_put N v1 v2 (-1 : Int32) m_6) (fun m_7 => b2 (f_X7_reviewsOfProposal N v2 m_7) (fun r_8 m_8 => some (.inl r_8, m_8)))) else B_X9_assign_59 N  m_4))))))))
def f_X9_checkReview (N : Nat) (v1 : Int32) (v2 : Int32) (m : Mem) : Option ((Unit ⊕ Nat) × Mem) :=
  b2 (f_X7_hasReview N v1 v2 m) (fun r_1 m_1 => (if r_1 = 0 then some (.inr 3, m_1) else some (.inl (), m_1)))
def f_X9_unassign (N : Nat) (v1 : Int32) (v2 : Int32) (m : Mem) : Option ((Int32 ⊕ Nat) × Mem) :=
  x1 (f_X9_checkPair N v1 v2 m) (fun m_1 => x1 (f_X9_checkReview N v1 v2 m_1) (fun m_2 => b1 (f_X2_remember N  m_2) (fun m_3 => b2 (f_X7_scoreAt N v1 v2 m_3) (fun r_4 m_4 => b1 (f_X7_put N v1 v2 (0 : Int32) m_4) (fun m_5 => some (.inl r_4, m_5))))))
def f_X9_isBetterChoice (N : Nat) (v1 : Int32) (v2 : Int32) (v3 : Int32) (m : Mem) : Option (Int32 × Mem) :=
  gd (kd (gR m 0 7) == 6) (b2 (f_X6_matchOf N (gR m 0 7) v1 v3 m) (fun r_2 m_2 => gd (kd (gR m_2 0 7) == 6) (b2 (f_X6_matchOf N (gR m_2 0 7) v2 v3 m_2) (fun r_4 m_4 => (if r_2 = r_4 then b2 (f_X7_reviewsOfReviewer N v1 m_4) (fun r_5 m_5 => b2 (f_X7_reviewsOfReviewer N v2 m_5) (fun r_6 m_6 => (if r_6 ≤ r_5 then some ((0 : Int32), m_6) else some ((1 : Int32), m_6)))) else (if r_2 ≤ r_4 then some ((0 : Int32), m_4) else some ((1 : Int32), m_4)))))))
def B_X9_addReview_55 (N : Nat) (rc : Int32 → Int32 → Int32 → Mem → Option (Int32 × Int32 × Mem)) (v1 : Int32) (v3 : Int32) (m : Mem) : Option (Int32 × Int32 × Mem) :=
  rc v1 v3 (v3 + (1 : Int32)) m
def T_X9_addReview_4 (N : Nat) (rc : Int32 → Int32 → Int32 → Mem → Option (Int32 × Int32 × Mem)) (v1 : Int32) (v2 : Int32) (v3 : Int32) (m : Mem) : Option (Int32 × Int32 × Mem) :=
  gd (kd (gR m 0 7) == 6) ((if (gI m (gR m 0 7) 1) ≤ v3 then some ((v1, v2, m)) else b2 (f_X9_fits N (gR m 0 7) v3 v1 m) (fun r_2 m_2 => (if r_2 = 0 then rc v1 v2 (v3 + (1 : Int32)) m_2 else b2 (f_X9_canTake N v3 v1 m_2) (fun r_3 m_3 => (if r_3 = 0 then rc v1 v2 (v3 + (1 : Int32)) m_3 else (if v2 = (-1 : Int32) then B_X9_addReview_55 N rc v1 v3 m_3 else b2 (f_X9_isBetterChoice N v3 v2 v1 m_3) (fun r_4 m_4 => (if r_4 = 0 then rc v1 v2 (v3 + (1 : Int32)) m_4 else B_X9_addReview_55 N rc v1 v3 m_4)))))))))
def L_X9_addReview_4 (N : Nat) : Nat → Int32 → Int32 → Int32 → Mem → Option (Int32 × Int32 × Mem)
  | 0 => fun _ _ _ _ => none
  | n + 1 => T_X9_addReview_4 N (L_X9_addReview_4 N n)
def f_X9_addReview (N : Nat) (v1 : Int32) (m : Mem) : Option (Int32 × Mem) :=
  l3 (L_X9_addReview_4 N N v1 (-1 : Int32) (0 : Int32) m) (fun v1_10 v2_10 m_10 => (if v2_10 = (-1 : Int32) then some ((0 : Int32), m_10) else b1 (f_X7_put N v2_10 v1_10 (-1 : Int32) m_10) (fun m_11 => some ((1 : Int32), m_11))))
def B_X9_checkPanel_15 (N : Nat)  (m : Mem) : Option ((Unit ⊕ Nat) × Mem) :=
  some (.inr 2, m)
def f_X9_checkPanel (N : Nat) (v1 : Int32) (m : Mem) : Option ((Unit ⊕ Nat) × Mem) :=
  (if v1 < 0 then B_X9_checkPanel_15 N  m else gd (kd (gR m 0 7) == 6) ((if v1 < (gI m (gR m 0 7) 0) then some (.inl (), m) else B_X9_checkPanel_15 N  m)))
def T_X9_assignAll_34 (N : Nat) (rc : Int32 → Int32 → Int32 → Int32 → Mem → Option (Int32 × Int32 × Int32 × Mem)) (v1 : Int32) (v2 : Int32) (v3 : Int32) (v4 : Int32) (m : Mem) : Option (Int32 × Int32 × Int32 × Mem) :=
  gd (kd (gR m 0 7) == 6) ((if (gI m (gR m 0 7) 2) ≤ v4 then some ((v1, v2, v3, m)) else gd (okA 12 (rt (gR m 0 7) 9) v4) ((if (gI m (rt (gR m 0 7) 9) v4.toNatClampNeg) = v1 then b2 (f_X7_reviewsOfProposal N v4 m) (fun r_6 m_6 => (if v3 ≤ r_6 then rc v1 v2 v3 (v4 + (1 : Int32)) m_6 else b2 (f_X9_addReview N v4 m_6) (fun r_7 m_7 => (if r_7 = 0 then rc v1 v2 v3 (v4 + (1 : Int32)) m_7 else rc v1 (v2 + (1 : Int32)) v3 (v4 + (1 : Int32)) m_7)))) else rc v1 v2 v3 (v4 + (1 : Int32)) m))))
def L_X9_assignAll_34 (N : Nat) : Nat → Int32 → Int32 → Int32 → Int32 → Mem → Option (Int32 × Int32 × Int32 × Mem)
  | 0 => fun _ _ _ _ _ => none
  | n + 1 => T_X9_assignAll_34 N (L_X9_assignAll_34 N n)
def T_X9_assignAll_20 (N : Nat) (rc : Int32 → Int32 → Int32 → Mem → Option (Int32 × Mem)) (v1 : Int32) (v2 : Int32) (v3 : Int32) (m : Mem) : Option (Int32 × Mem) :=
  gd (kd (gR m 0 7) == 6) ((if (gI m (gR m 0 7) 14) < v3 then some ((v2, m)) else l4 (L_X9_assignAll_34 N N v1 v2 v3 (0 : Int32) m) (fun v1_12 v2_12 v3_12 m_12 => rc v1_12 v2_12 (v3_12 + (1 : Int32)) m_12)))
def L_X9_assignAll_20 (N : Nat) : Nat → Int32 → Int32 → Int32 → Mem → Option (Int32 × Mem)
  | 0 => fun _ _ _ _ => none
  | n + 1 => T_X9_assignAll_20 N (L_X9_assignAll_20 N n)
def f_X9_assignAll (N : Nat) (v1 : Int32) (m : Mem) : Option ((Int32 ⊕ Nat) × Mem) :=
  x1 (f_X9_checkPanel N v1 m) (fun m_1 => b1 (f_X2_remember N  m_1) (fun m_2 => l2 (L_X9_assignAll_20 N N v1 (0 : Int32) (1 : Int32) m_2) (fun v2_14 m_14 => some (.inl v2_14, m_14))))
def T_X9_reviewerOf_10 (N : Nat) (rc : Int32 → Int32 → Int32 → Int32 → Mem → Option ((Mem) ⊕ (Int32 × Mem))) (v1 : Int32) (v2 : Int32) (v3 : Int32) (v4 : Int32) (m : Mem) : Option ((Mem) ⊕ (Int32 × Mem)) :=
  gd (kd (gR m 0 7) == 6) ((if (gI m (gR m 0 7) 1) ≤ v4 then some (.inl (m)) else b2 (f_X7_hasReview N v4 v1 m) (fun r_3 m_3 => (if r_3 = 0 then rc v1 v2 v3 (v4 + (1 : Int32)) m_3 else (if v3 = v2 then some (.inr ((v4, m_3))) else rc v1 v2 (v3 + (1 : Int32)) (v4 + (1 : Int32)) m_3)))))
def L_X9_reviewerOf_10 (N : Nat) : Nat → Int32 → Int32 → Int32 → Int32 → Mem → Option ((Mem) ⊕ (Int32 × Mem))
  | 0 => fun _ _ _ _ _ => none
  | n + 1 => T_X9_reviewerOf_10 N (L_X9_reviewerOf_10 N n)
def f_X9_reviewerOf (N : Nat) (v1 : Int32) (v2 : Int32) (m : Mem) : Option ((Int32 ⊕ Nat) × Mem) :=
  x1 (f_X9_checkProposal N v1 m) (fun m_1 => (L_X9_reviewerOf_10 N N v1 v2 (0 : Int32) (0 : Int32) m_1).bind (fun x9 => match x9 with | .inl (m_7) => some (.inr 2, m_7) | .inr ((v4_7, m_7)) => some (.inl v4_7, m_7)))
def f_X9_loadOf (N : Nat) (v1 : Int32) (m : Mem) : Option ((Int32 ⊕ Nat) × Mem) :=
  x1 (f_X9_checkReviewer N v1 m) (fun m_1 => b2 (f_X7_reviewsOfReviewer N v1 m_1) (fun r_2 m_2 => some (.inl r_2, m_2)))
def T_X9_matchSum_23 (N : Nat) (rc : Int32 → Int32 → Int32 → Int32 → Mem → Option (Int32 × Int32 × Int32 × Mem)) (v1 : Int32) (v2 : Int32) (v3 : Int32) (v4 : Int32) (m : Mem) : Option (Int32 × Int32 × Int32 × Mem) :=
  gd (kd (gR m 0 7) == 6) ((if (gI m (gR m 0 7) 1) ≤ v4 then some ((v1, v2, v3, m)) else gd (okA 12 (rt (gR m 0 7) 9) v3) ((if (gI m (rt (gR m 0 7) 9) v3.toNatClampNeg) = v1 then b2 (f_X7_hasReview N v4 v3 m) (fun r_5 m_5 => (if r_5 = 0 then rc v1 v2 v3 (v4 + (1 : Int32)) m_5 else gd (kd (gR m_5 0 7) == 6) (b2 (f_X6_matchOf N (gR m_5 0 7) v4 v3 m_5) (fun r_7 m_7 => rc v1 (v2 + r_7) v3 (v4 + (1 : Int32)) m_7)))) else rc v1 v2 v3 (v4 + (1 : Int32)) m))))
def L_X9_matchSum_23 (N : Nat) : Nat → Int32 → Int32 → Int32 → Int32 → Mem → Option (Int32 × Int32 × Int32 × Mem)
  | 0 => fun _ _ _ _ _ => none
  | n + 1 => T_X9_matchSum_23 N (L_X9_matchSum_23 N n)
def T_X9_matchSum_9 (N : Nat) (rc : Int32 → Int32 → Int32 → Mem → Option (Int32 × Mem)) (v1 : Int32) (v2 : Int32) (v3 : Int32) (m : Mem) : Option (Int32 × Mem) :=
  gd (kd (gR m 0 7) == 6) ((if (gI m (gR m 0 7) 2) ≤ v3 then some ((v2, m)) else l4 (L_X9_matchSum_23 N N v1 v2 v3 (0 : Int32) m) (fun v1_11 v2_11 v3_11 m_11 => rc v1_11 v2_11 (v3_11 + (1 : Int32)) m_11)))
def L_X9_matchSum_9 (N : Nat) : Nat → Int32 → Int32 → Int32 → Mem → Option (Int32 × Mem)
  | 0 => fun _ _ _ _ => none
  | n + 1 => T_X9_matchSum_9 N (L_X9_matchSum_9 N n)
def f_X9_matchSum (N : Nat) (v1 : Int32) (m : Mem) : Option ((Int32 ⊕ Nat) × Mem) :=
  x1 (f_X9_checkPanel N v1 m) (fun m_1 => l2 (L_X9_matchSum_9 N N v1 (0 : Int32) (0 : Int32) m_1) (fun v2_13 m_13 => some (.inl v2_13, m_13)))
def f_X9_mostReviews (N : Nat) (v1 : Int32) (m : Mem) : Option ((Int32 ⊕ Nat) × Mem) :=
  x1 (f_X9_checkPanel N v1 m) (fun m_1 => b1 (f_X4_solve N (gR m_1 0 7) v1 m_1) (fun m_2 => some (.inl (gI m_2 51 10), m_2)))
def f_X9_bestMatchSum (N : Nat) (v1 : Int32) (m : Mem) : Option ((Int32 ⊕ Nat) × Mem) :=
  x1 (f_X9_checkPanel N v1 m) (fun m_1 => b1 (f_X4_solve N (gR m_1 0 7) v1 m_1) (fun m_2 => some (.inl (gI m_2 51 11), m_2)))
def B_X9_setScore_32 (N : Nat) (v1 : Int32) (v2 : Int32) (v3 : Int32) (m : Mem) : Option ((Int32 ⊕ Nat) × Mem) :=
  x1 (f_X9_checkReview N v1 v2 m) (fun m_2 => b1 (f_X2_remember N  m_2) (fun m_3 => b2 (f_X7_scoreAt N v1 v2 m_3) (fun r_4 m_4 => b1 (f_X7_put N v1 v2 v3 m_4) (fun m_5 => some (.inl r_4, m_5)))))
def B_X9_setScore_22 (N : Nat)  (m : Mem) : Option ((Int32 ⊕ Nat) × Mem) :=
  some (.inr 1, m)
def f_X9_setScore (N : Nat) (v1 : Int32) (v2 : Int32) (v3 : Int32) (m : Mem) : Option ((Int32 ⊕ Nat) × Mem) :=
  x1 (f_X9_checkPair N v1 v2 m) (fun m_1 => (if v3 = (-1 : Int32) then B_X9_setScore_32 N v1 v2 v3 m_1 else (if v3 < (1 : Int32) then B_X9_setScore_22 N  m_1 else (if v3 ≤ (100 : Int32) then B_X9_setScore_32 N v1 v2 v3 m_1 else B_X9_setScore_22 N  m_1))))
def f_X9_checkScore (N : Nat) (v1 : Int32) (v2 : Int32) (m : Mem) : Option ((Unit ⊕ Nat) × Mem) :=
  b2 (f_X7_hasScore N v1 v2 m) (fun r_1 m_1 => (if r_1 = 0 then some (.inr 3, m_1) else some (.inl (), m_1)))
def f_X9_adjusted (N : Nat) (v1 : Int32) (v2 : Int32) (m : Mem) : Option ((Int32 ⊕ Nat) × Mem) :=
  x1 (f_X9_checkPair N v1 v2 m) (fun m_1 => x1 (f_X9_checkScore N v1 v2 m_1) (fun m_2 => b1 (f_X5_update N (gR m_2 0 7) m_2) (fun m_3 => b2 (f_X7_scoreAt N v1 v2 m_3) (fun r_4 m_4 => b2 (f_X5_adjustedScore N v1 r_4 m_4) (fun r_5 m_5 => some (.inl r_5, m_5))))))
def f_X9_checkRanked (N : Nat) (v1 : Int32) (m : Mem) : Option ((Unit ⊕ Nat) × Mem) :=
  b2 (f_X5_isRanked N v1 m) (fun r_1 m_1 => (if r_1 = 0 then some (.inr 3, m_1) else some (.inl (), m_1)))
def f_X9_normalized (N : Nat) (v1 : Int32) (m : Mem) : Option ((Int32 ⊕ Nat) × Mem) :=
  x1 (f_X9_checkProposal N v1 m) (fun m_1 => b1 (f_X5_update N (gR m_1 0 7) m_1) (fun m_2 => x1 (f_X9_checkRanked N v1 m_2) (fun m_3 => gd (inb v1 16) (some (.inl (gI m_3 43 v1.toNatClampNeg), m_3)))))
def T_X9_leniency_38 (N : Nat) (rc : Int32 → Int32 → Int32 → Int32 → Int32 → Mem → Option (Int32 × Int32 × Int32 × Int32 × Mem)) (v1 : Int32) (v2 : Int32) (v3 : Int32) (v4 : Int32) (v5 : Int32) (m : Mem) : Option (Int32 × Int32 × Int32 × Int32 × Mem) :=
  gd (kd (gR m 0 7) == 6) ((if (gI m (gR m 0 7) 1) ≤ v5 then some ((v1, v2, v3, v4, m)) else gd (okA 12 (rt (gR m 0 7) 4) v5) (gd (okA 12 (rt (gR m 0 7) 4) v1) ((if (gI m (rt (gR m 0 7) 4) v5.toNatClampNeg) = (gI m (rt (gR m 0 7) 4) v1.toNatClampNeg) then gd (inb v5 12) (rc v1 v2 (v3 + (gI m 39 v5.toNatClampNeg)) (v4 + (gI m 40 v5.toNatClampNeg)) (v5 + (1 : Int32)) m) else rc v1 v2 v3 v4 (v5 + (1 : Int32)) m)))))
def L_X9_leniency_38 (N : Nat) : Nat → Int32 → Int32 → Int32 → Int32 → Int32 → Mem → Option (Int32 × Int32 × Int32 × Int32 × Mem)
  | 0 => fun _ _ _ _ _ _ => none
  | n + 1 => T_X9_leniency_38 N (L_X9_leniency_38 N n)
def B_X9_leniency_114 (N : Nat)  (m : Mem) : Option ((UInt64 ⊕ Nat) × Mem) :=
  some (.inr 3, m)
def f_X9_leniency (N : Nat) (v1 : Int32) (m : Mem) : Option ((UInt64 ⊕ Nat) × Mem) :=
  x1 (f_X9_checkReviewer N v1 m) (fun m_1 => b1 (f_X5_update N (gR m_1 0 7) m_1) (fun m_2 => gd (inb v1 12) (l5 (L_X9_leniency_38 N N v1 (gI m_2 39 v1.toNatClampNeg) (0 : Int32) (0 : Int32) (0 : Int32) m_2) (fun v1_10 v2_10 v3_10 v4_10 m_10 => (if v2_10 = 0 then B_X9_leniency_114 N  m_10 else (if v3_10 = 0 then B_X9_leniency_114 N  m_10 else gd (inb v1_10 12) (gd (okN (FP.ddiv (FP.i2d (gI m_10 40 v1_10.toNatClampNeg)) (FP.i2d v2_10))) (gd (okN (FP.ddiv (FP.i2d v4_10) (FP.i2d v3_10))) (gd (okN (FP.dsub (FP.ddiv (FP.i2d (gI m_10 40 v1_10.toNatClampNeg)) (FP.i2d v2_10)) (FP.ddiv (FP.i2d v4_10) (FP.i2d v3_10)))) (some (.inl (FP.dsub (FP.ddiv (FP.i2d (gI m_10 40 v1_10.toNatClampNeg)) (FP.i2d v2_10)) (FP.ddiv (FP.i2d v4_10) (FP.i2d v3_10))), m_10)))))))))))
def T_X9_disagreement_27 (N : Nat) (rc : Int32 → Int32 → Int32 → Int32 → Int32 → Mem → Option (Int32 × Int32 × Int32 × Int32 × Mem)) (v1 : Int32) (v2 : Int32) (v3 : Int32) (v4 : Int32) (v5 : Int32) (m : Mem) : Option (Int32 × Int32 × Int32 × Int32 × Mem) :=
  (if v4 ≤ v5 then some ((v1, v2, v3, v4, m)) else b2 (f_X7_hasScore N v4 v1 m) (fun r_3 m_3 => (if r_3 = 0 then rc v1 v2 v3 v4 (v5 + (1 : Int32)) m_3 else b2 (f_X7_hasScore N v5 v1 m_3) (fun r_4 m_4 => (if r_4 = 0 then rc v1 v2 v3 v4 (v5 + (1 : Int32)) m_4 else b2 (f_X7_scoreAt N v4 v1 m_4) (fun r_5 m_5 => b2 (f_X7_scoreAt N v5 v1 m_5) (fun r_6 m_6 => rc v1 (v2 + (1 : Int32)) (v3 + (if 0 ≤ (r_5 - r_6) then (r_5 - r_6) else 0 - (r_5 - r_6))) v4 (v5 + (1 : Int32)) m_6)))))))
def L_X9_disagreement_27 (N : Nat) : Nat → Int32 → Int32 → Int32 → Int32 → Int32 → Mem → Option (Int32 × Int32 × Int32 × Int32 × Mem)
  | 0 => fun _ _ _ _ _ _ => none
  | n + 1 => T_X9_disagreement_27 N (L_X9_disagreement_27 N n)
def T_X9_disagreement_12 (N : Nat) (rc : Int32 → Int32 → Int32 → Int32 → Mem → Option (Int32 × Int32 × Mem)) (v1 : Int32) (v2 : Int32) (v3 : Int32) (v4 : Int32) (m : Mem) : Option (Int32 × Int32 × Mem) :=
  gd (kd (gR m 0 7) == 6) ((if (gI m (gR m 0 7) 1) ≤ v4 then some ((v2, v3, m)) else l5 (L_X9_disagreement_27 N N v1 v2 v3 v4 (0 : Int32) m) (fun v1_10 v2_10 v3_10 v4_10 m_10 => rc v1_10 v2_10 v3_10 (v4_10 + (1 : Int32)) m_10)))
def L_X9_disagreement_12 (N : Nat) : Nat → Int32 → Int32 → Int32 → Int32 → Mem → Option (Int32 × Int32 × Mem)
  | 0 => fun _ _ _ _ _ => none
  | n + 1 => T_X9_disagreement_12 N (L_X9_disagreement_12 N n)
def f_X9_disagreement (N : Nat) (v1 : Int32) (m : Mem) : Option ((UInt64 ⊕ Nat) × Mem) :=
  x1 (f_X9_checkProposal N v1 m) (fun m_1 => l3 (L_X9_disagreement_12 N N v1 (0 : Int32) (0 : Int32) (0 : Int32) m_1) (fun v2_12 v3_12 m_12 => (if v2_12 = 0 then some (.inr 3, m_12) else gd (okN (FP.ddiv (FP.i2d v3_12) (FP.i2d v2_12))) (some (.inl (FP.ddiv (FP.i2d v3_12) (FP.i2d v2_12)), m_12)))))
def T_X9_rank_29 (N : Nat) (rc : Int32 → Int32 → Int32 → Mem → Option (Int32 × Mem)) (v1 : Int32) (v2 : Int32) (v3 : Int32) (m : Mem) : Option (Int32 × Mem) :=
  gd (kd (gR m 0 7) == 6) ((if (gI m (gR m 0 7) 2) ≤ v3 then some ((v2, m)) else gd (okA 12 (rt (gR m 0 7) 9) v3) (gd (okA 12 (rt (gR m 0 7) 9) v1) ((if (gI m (rt (gR m 0 7) 9) v3.toNatClampNeg) = (gI m (rt (gR m 0 7) 9) v1.toNatClampNeg) then b2 (f_X5_isRanked N v3 m) (fun r_7 m_7 => (if r_7 = 0 then rc v1 v2 (v3 + (1 : Int32)) m_7 else b2 (f_X5_isBefore N v3 v1 m_7) (fun r_8 m_8 => (if r_8 = 0 then rc v1 v2 (v3 + (1 : Int32)) m_8 else rc v1 (v2 + (1 : Int32)) (v3 + (1 : Int32)) m_8)))) else rc v1 v2 (v3 + (1 : Int32)) m)))))
def L_X9_rank_29 (N : Nat) : Nat → Int32 → Int32 → Int32 → Mem → Option (Int32 × Mem)
  | 0 => fun _ _ _ _ => none
  | n + 1 => T_X9_rank_29 N (L_X9_rank_29 N n)
def f_X9_rank (N : Nat) (v1 : Int32) (m : Mem) : Option ((Int32 ⊕ Nat) × Mem) :=
  x1 (f_X9_checkProposal N v1 m) (fun m_1 => b1 (f_X5_update N (gR m_1 0 7) m_1) (fun m_2 => x1 (f_X9_checkRanked N v1 m_2) (fun m_3 => l2 (L_X9_rank_29 N N v1 (0 : Int32) (0 : Int32) m_3) (fun v2_13 m_13 => some (.inl v2_13, m_13)))))
def B_X9_ranked_73 (N : Nat) (rc : Int32 → Int32 → Int32 → Int32 → Mem → Option ((Mem) ⊕ (Int32 × Mem))) (v1 : Int32) (v2 : Int32) (v3 : Int32) (v4 : Int32) (v5 : Int32) (m : Mem) : Option ((Mem) ⊕ (Int32 × Mem)) :=
  (if v3 = v2 then some (.inr ((v5, m))) else rc v1 v2 (v3 + (1 : Int32)) (v4 + (1 : Int32)) m)
def T_X9_ranked_30 (N : Nat) (rc : Int32 → Int32 → Int32 → Int32 → Mem → Option ((Mem) ⊕ (Int32 × Mem))) (v1 : Int32) (v2 : Int32) (v3 : Int32) (v4 : Int32) (m : Mem) : Option ((Mem) ⊕ (Int32 × Mem)) :=
  (if (gI m 38 9) ≤ v4 then some (.inl (m)) else gd (inb v4 16) ((if v1 = (-1 : Int32) then B_X9_ranked_73 N rc v1 v2 v3 v4 (gI m 47 v4.toNatClampNeg) m else gd (kd (gR m 0 7) == 6) (gd (okA 12 (rt (gR m 0 7) 9) (gI m 47 v4.toNatClampNeg)) ((if (gI m (rt (gR m 0 7) 9) (gI m 47 v4.toNatClampNeg).toNatClampNeg) = v1 then B_X9_ranked_73 N rc v1 v2 v3 v4 (gI m 47 v4.toNatClampNeg) m else rc v1 v2 v3 (v4 + (1 : Int32)) m))))))
def L_X9_ranked_30 (N : Nat) : Nat → Int32 → Int32 → Int32 → Int32 → Mem → Option ((Mem) ⊕ (Int32 × Mem))
  | 0 => fun _ _ _ _ _ => none
  | n + 1 => T_X9_ranked_30 N (L_X9_ranked_30 N n)
def B_X9_ranked_10 (N : Nat) (v1 : Int32) (v2 : Int32) (m : Mem) : Option ((Int32 ⊕ Nat) × Mem) :=
  b1 (f_X5_update N (gR m 0 7) m) (fun m_1 => (L_X9_ranked_30 N N v1 v2 (0 : Int32) (0 : Int32) m_1).bind (fun x9 => match x9 with | .inl (m_9) => some (.inr 2, m_9) | .inr ((v5_9, m_9)) => some (.inl v5_9, m_9)))
def f_X9_ranked (N : Nat) (v1 : Int32) (v2 : Int32) (m : Mem) : Option ((Int32 ⊕ Nat) × Mem) :=
  (if v1 = (-1 : Int32) then B_X9_ranked_10 N v1 v2 m else x1 (f_X9_checkPanel N v1 m) (fun m_10 => B_X9_ranked_10 N v1 v2 m_10))
def f_X9_tieRound (N : Nat) (v1 : Int32) (v2 : Int32) (m : Mem) : Option ((Int32 ⊕ Nat) × Mem) :=
  x1 (f_X9_checkProposal N v1 m) (fun m_1 => x1 (f_X9_checkProposal N v2 m_1) (fun m_2 => (if v1 = v2 then some (.inr 1, m_2) else b1 (f_X5_update N (gR m_2 0 7) m_2) (fun m_3 => x1 (f_X9_checkRanked N v1 m_3) (fun m_4 => x1 (f_X9_checkRanked N v2 m_4) (fun m_5 => b2 (f_X5_separation N v1 v2 m_5) (fun r_6 m_6 => some (.inl r_6, m_6))))))))
def B_X9_setLine_11 (N : Nat)  (m : Mem) : Option ((Int32 ⊕ Nat) × Mem) :=
  some (.inr 1, m)
def f_X9_setLine (N : Nat) (v1 : Int32) (m : Mem) : Option ((Int32 ⊕ Nat) × Mem) :=
  (if v1 < 0 then B_X9_setLine_11 N  m else (if v1 ≤ (100000 : Int32) then b1 (f_X2_remember N  m) (fun m_1 => wr (sI m_1 3 3 v1) (fun m_2 => some (.inl (gI m_1 3 3), m_2))) else B_X9_setLine_11 N  m))
def B_X9_checkMode_9 (N : Nat)  (m : Mem) : Option ((Unit ⊕ Nat) × Mem) :=
  some (.inr 1, m)
def f_X9_checkMode (N : Nat) (v0 : Int32) (m : Mem) : Option ((Unit ⊕ Nat) × Mem) :=
  (if v0 < 0 then B_X9_checkMode_9 N  m else (if v0 ≤ (2 : Int32) then some (.inl (), m) else B_X9_checkMode_9 N  m))
def f_X9_fund (N : Nat) (v1 : Int32) (m : Mem) : Option (Mem) :=
  b1 (f_X5_update N (gR m 0 7) m) (fun m_1 => b1 (f_X1_distribute N (gR m_1 0 7) v1 (gI m_1 3 3) m_1) (fun m_2 => some (m_2)))
def f_X9_amount (N : Nat) (v1 : Int32) (v2 : Int32) (m : Mem) : Option ((Int32 ⊕ Nat) × Mem) :=
  x1 (f_X9_checkMode N v1 m) (fun m_1 => x1 (f_X9_checkProposal N v2 m_1) (fun m_2 => b1 (f_X9_fund N v1 m_2) (fun m_3 => gd (inb v2 16) (some (.inl (gI m_3 49 v2.toNatClampNeg), m_3)))))
def f_X9_left (N : Nat) (v1 : Int32) (v2 : Int32) (m : Mem) : Option ((Int32 ⊕ Nat) × Mem) :=
  x1 (f_X9_checkMode N v1 m) (fun m_1 => x1 (f_X9_checkPanel N v2 m_1) (fun m_2 => b1 (f_X9_fund N v1 m_2) (fun m_3 => gd (inb v2 4) (some (.inl (gI m_3 50 v2.toNatClampNeg), m_3)))))
def f_X9_poolLeft (N : Nat) (v1 : Int32) (m : Mem) : Option ((Int32 ⊕ Nat) × Mem) :=
  x1 (f_X9_checkMode N v1 m) (fun m_1 => b1 (f_X9_fund N v1 m_1) (fun m_2 => some (.inl (gI m_2 48 2), m_2)))
def f_X9_funded (N : Nat) (v1 : Int32) (m : Mem) : Option ((Int32 ⊕ Nat) × Mem) :=
  x1 (f_X9_checkMode N v1 m) (fun m_1 => b1 (f_X9_fund N v1 m_1) (fun m_2 => gd (kd (gR m_2 0 7) == 6) (b2 (f_X1_winners N (gI m_2 (gR m_2 0 7) 2) m_2) (fun r_4 m_4 => some (.inl r_4, m_4)))))
def T_X9_bestSum_29 (N : Nat) (rc : Int32 → Int32 → Mem → Option (Int32 × Mem)) (v1 : Int32) (v2 : Int32) (m : Mem) : Option (Int32 × Mem) :=
  (if (gI m 38 9) ≤ v2 then some ((v1, m)) else gd (inb v2 16) (gd (kd (gR m 0 7) == 6) (gd (okA 12 (rt (gR m 0 7) 9) (gI m 47 v2.toNatClampNeg)) ((if (gI m (rt (gR m 0 7) 9) (gI m 47 v2.toNatClampNeg).toNatClampNeg) = v1 then gd (inb (gI m 47 v2.toNatClampNeg) 16) ((if (gI m 43 (gI m 47 v2.toNatClampNeg).toNatClampNeg) < (gI m 3 3) then rc v1 (v2 + (1 : Int32)) m else gd (okA 12 (rt (gR m 0 7) 12) (gI m 47 v2.toNatClampNeg)) (b1 (f_X3_offer N (gI m (rt (gR m 0 7) 12) (gI m 47 v2.toNatClampNeg).toNatClampNeg) (gI m 43 (gI m 47 v2.toNatClampNeg).toNatClampNeg) m) (fun m_9 => rc v1 (v2 + (1 : Int32)) m_9)))) else rc v1 (v2 + (1 : Int32)) m)))))
def L_X9_bestSum_29 (N : Nat) : Nat → Int32 → Int32 → Mem → Option (Int32 × Mem)
  | 0 => fun _ _ _ => none
  | n + 1 => T_X9_bestSum_29 N (L_X9_bestSum_29 N n)
def f_X9_bestSum (N : Nat) (v1 : Int32) (m : Mem) : Option ((Int32 ⊕ Nat) × Mem) :=
  x1 (f_X9_checkPanel N v1 m) (fun m_1 => b1 (f_X5_update N (gR m_1 0 7) m_1) (fun m_2 => b1 (f_X3_clear N  m_2) (fun m_3 => l2 (L_X9_bestSum_29 N N v1 (0 : Int32) m_3) (fun v1_13 m_13 => gd (kd (gR m_13 0 7) == 6) (gd (okA 12 (rt (gR m_13 0 7) 3) v1_13) (b2 (f_X3_best N (gI m_13 (rt (gR m_13 0 7) 3) v1_13.toNatClampNeg) m_13) (fun r_16 m_16 => some (.inl r_16, m_16))))))))
def B_X9_lineFor_15 (N : Nat)  (m : Mem) : Option ((Int32 ⊕ Nat) × Mem) :=
  some (.inr 1, m)
def T_X9_lineFor_43 (N : Nat) (rc : Int32 → Int32 → Int32 → Mem → Option ((Mem) ⊕ (Mem) ⊕ (Int32 × Mem))) (v1 : Int32) (v2 : Int32) (v3 : Int32) (m : Mem) : Option ((Mem) ⊕ (Mem) ⊕ (Int32 × Mem)) :=
  (if (gI m 38 9) ≤ v3 then some (.inl (m)) else gd (inb v3 16) (gd (inb (gI m 47 v3.toNatClampNeg) 16) ((if 0 ≤ (if (100000 : Int32) < (gI m 43 (gI m 47 v3.toNatClampNeg).toNatClampNeg) then (100000 : Int32) else (gI m 43 (gI m 47 v3.toNatClampNeg).toNatClampNeg)) then b1 (f_X1_distribute N (gR m 0 7) v1 (if (100000 : Int32) < (gI m 43 (gI m 47 v3.toNatClampNeg).toNatClampNeg) then (100000 : Int32) else (gI m 43 (gI m 47 v3.toNatClampNeg).toNatClampNeg)) m) (fun m_5 => gd (kd (gR m_5 0 7) == 6) (b2 (f_X1_winners N (gI m_5 (gR m_5 0 7) 2) m_5) (fun r_7 m_7 => b2 (f_J6_bitCount_0f7a4 N r_7 m_7) (fun r_8 m_8 => (if r_8 < v2 then rc v1 v2 (v3 + (1 : Int32)) m_8 else some (.inr (.inr (((if (100000 : Int32) < (gI m 43 (gI m 47 v3.toNatClampNeg).toNatClampNeg) then (100000 : Int32) else (gI m 43 (gI m 47 v3.toNatClampNeg).toNatClampNeg)), m_8))))))))) else some (.inr (.inl (m)))))))
def L_X9_lineFor_43 (N : Nat) : Nat → Int32 → Int32 → Int32 → Mem → Option ((Mem) ⊕ (Mem) ⊕ (Int32 × Mem))
  | 0 => fun _ _ _ _ => none
  | n + 1 => T_X9_lineFor_43 N (L_X9_lineFor_43 N n)
def f_X9_lineFor (N : Nat) (v1 : Int32) (v2 : Int32) (m : Mem) : Option ((Int32 ⊕ Nat) × Mem) :=
  x1 (f_X9_checkMode N v1 m) (fun m_1 => (if v2 < (1 : Int32) then B_X9_lineFor_15 N  m_1 else (if v2 ≤ (16 : Int32) then b1 (f_X5_update N (gR m_1 0 7) m_1) (fun m_2 => (L_X9_lineFor_43 N N v1 v2 (0 : Int32) m_2).bind (fun x9 => match x9 with | .inl (m_12) => some (.inl (-1 : Int32), m_12) | .inr (.inl (m_12)) => some (.inl (-1 : Int32), m_12) | .inr (.inr ((v4_12, m_12))) => some (.inl v4_12, m_12))) else B_X9_lineFor_15 N  m_1)))
def T_X9_appeal_20 (N : Nat) (rc : Int32 → Int32 → Int32 → Int32 → Int32 → Mem → Option (Int32 × Int32 × Int32 × Int32 × Mem)) (v1 : Int32) (v2 : Int32) (v3 : Int32) (v4 : Int32) (v5 : Int32) (m : Mem) : Option (Int32 × Int32 × Int32 × Int32 × Mem) :=
  gd (kd (gR m 0 7) == 6) ((if (gI m (gR m 0 7) 1) ≤ v5 then some ((v1, v2, v3, v4, m)) else (if v5 = v1 then rc v1 v2 v3 v4 (v5 + (1 : Int32)) m else b2 (f_X7_hasScore N v5 v2 m) (fun r_4 m_4 => (if r_4 = 0 then rc v1 v2 v3 v4 (v5 + (1 : Int32)) m_4 else b2 (f_X7_scoreAt N v5 v2 m_4) (fun r_5 m_5 => rc v1 v2 (v3 + (1 : Int32)) (v4 + r_5) (v5 + (1 : Int32)) m_5))))))
def L_X9_appeal_20 (N : Nat) : Nat → Int32 → Int32 → Int32 → Int32 → Int32 → Mem → Option (Int32 × Int32 × Int32 × Int32 × Mem)
  | 0 => fun _ _ _ _ _ _ => none
  | n + 1 => T_X9_appeal_20 N (L_X9_appeal_20 N n)
def B_X9_appeal_90 (N : Nat)  (m : Mem) : Option ((Int32 ⊕ Nat) × Mem) :=
  some (.inr 0, m)
def f_X9_appeal (N : Nat) (v1 : Int32) (v2 : Int32) (m : Mem) : Option ((Int32 ⊕ Nat) × Mem) :=
  x1 (f_X9_checkPair N v1 v2 m) (fun m_1 => x1 (f_X9_checkScore N v1 v2 m_1) (fun m_2 => l5 (L_X9_appeal_20 N N v1 v2 (0 : Int32) (0 : Int32) (0 : Int32) m_2) (fun v1_9 v2_9 v3_9 v4_9 m_9 => (if v3_9 = 0 then B_X9_appeal_90 N  m_9 else b2 (f_X7_isGranted N v2_9 m_9) (fun r_10 m_10 => (if r_10 = 0 then b2 (f_X7_scoreAt N v1_9 v2_9 m_10) (fun r_11 m_11 => gd (kd (gR m_11 0 7) == 6) ((if (v3_9 * (gI m_11 (gR m_11 0 7) 15)) < (if 0 ≤ ((v3_9 * r_11) - v4_9) then ((v3_9 * r_11) - v4_9) else 0 - ((v3_9 * r_11) - v4_9)) then b1 (f_X2_remember N  m_11) (fun m_13 => b1 (f_X7_put N v1_9 v2_9 (0 : Int32) m_13) (fun m_14 => b1 (f_X7_addConflict N v1_9 v2_9 m_14) (fun m_15 => b1 (f_X7_grantAppeal N v2_9 m_15) (fun m_16 => some (.inl (1 : Int32), m_16))))) else some (.inl (0 : Int32), m_11)))) else B_X9_appeal_90 N  m_10))))))
def f_X9_undo (N : Nat)  (m : Mem) : Option ((Int32 ⊕ Nat) × Mem) :=
  (if (gI m 6 2) = 0 then some (.inr 0, m) else b1 (f_X2_restore N  m) (fun m_1 => some (.inl (gI m_1 6 2), m_1)))
def f_X10_thrown (N : Nat)  (m : Mem) : Option (Int32 × Mem) :=
  some (gI m 95 0, m)
def B_X10_in_14 (N : Nat)  (m : Mem) : Option (Int32 × Mem) :=
  some ((0 : Int32), m)
def f_X10_in (N : Nat) (v0 : Int32) (v1 : Int32) (v2 : Int32) (m : Mem) : Option (Int32 × Mem) :=
  (if v0 < v1 then B_X10_in_14 N  m else (if v2 < v0 then B_X10_in_14 N  m else some ((1 : Int32), m)))
def f_X10_has (N : Nat) (v0 : Int32) (v1 : Int32) (m : Mem) : Option (Int32 × Mem) :=
  (if ((v0 >>> (v1 &&& 31)) &&& (1 : Int32)) = (1 : Int32) then some ((1 : Int32), m) else some ((0 : Int32), m))
def T_X10_bits_4 (N : Nat) (rc : Int32 → Int32 → Mem → Option (Int32 × Mem)) (v1 : Int32) (v2 : Int32) (m : Mem) : Option (Int32 × Mem) :=
  (if v2 = 0 then some ((v1, m)) else rc (v1 + (1 : Int32)) (v2 &&& (v2 - (1 : Int32))) m)
def L_X10_bits_4 (N : Nat) : Nat → Int32 → Int32 → Mem → Option (Int32 × Mem)
  | 0 => fun _ _ _ => none
  | n + 1 => T_X10_bits_4 N (L_X10_bits_4 N n)
def f_X10_bits (N : Nat) (v0 : Int32) (m : Mem) : Option (Int32 × Mem) :=
  l2 (L_X10_bits_4 N N (0 : Int32) v0 m) (fun v1_2 m_2 => some (v1_2, m_2))
def f_X10_fails (N : Nat) (v1 : Int32) (m : Mem) : Option (Int32 × Mem) :=
  wr (sI m 95 0 v1) (fun m_1 => some ((0 : Int32), m_1))
def f_X10_isPanel (N : Nat) (v1 : Int32) (m : Mem) : Option (Int32 × Mem) :=
  b2 (f_X10_in N v1 (0 : Int32) ((gI m 96 0) - (1 : Int32)) m) (fun r_1 m_1 => gd (isB r_1) (some (r_1, m_1)))
def f_X10_isReviewer (N : Nat) (v1 : Int32) (m : Mem) : Option (Int32 × Mem) :=
  b2 (f_X10_in N v1 (0 : Int32) ((gI m 96 1) - (1 : Int32)) m) (fun r_1 m_1 => gd (isB r_1) (some (r_1, m_1)))
def f_X10_isProposal (N : Nat) (v1 : Int32) (m : Mem) : Option (Int32 × Mem) :=
  b2 (f_X10_in N v1 (0 : Int32) ((gI m 96 2) - (1 : Int32)) m) (fun r_1 m_1 => gd (isB r_1) (some (r_1, m_1)))
def f_X10_reviewer (N : Nat) (v1 : Int32) (v2 : Int32) (m : Mem) : Option (Int32 × Mem) :=
  gd (inb (((11 : Int32) + ((4 : Int32) * v1)) + v2) 151) (some (gI m 96 (((11 : Int32) + ((4 : Int32) * v1)) + v2).toNatClampNeg, m))
def f_X10_proposal (N : Nat) (v1 : Int32) (v2 : Int32) (m : Mem) : Option (Int32 × Mem) :=
  gd (inb (((59 : Int32) + ((5 : Int32) * v1)) + v2) 151) (some (gI m 96 (((59 : Int32) + ((5 : Int32) * v1)) + v2).toNatClampNeg, m))
def T_X10_four_3 (N : Nat) (rc : Int32 → Int32 → Mem → Option (Mem)) (v1 : Int32) (v2 : Int32) (m : Mem) : Option (Mem) :=
  (if v2 < 0 then some (m) else gd (inb (gI m 95 7) 800) (wr (sI m 100 (gI m 95 7).toNatClampNeg ((v1 >>> (v2 &&& 31)) &&& (255 : Int32))) (fun m_2 => wr (sI m_2 95 7 ((gI m_2 95 7) + (1 : Int32))) (fun m_3 => rc v1 (v2 + (-8 : Int32)) m_3))))
def L_X10_four_3 (N : Nat) : Nat → Int32 → Int32 → Mem → Option (Mem)
  | 0 => fun _ _ _ => none
  | n + 1 => T_X10_four_3 N (L_X10_four_3 N n)
def f_X10_four (N : Nat) (v1 : Int32) (m : Mem) : Option (Mem) :=
  l1 (L_X10_four_3 N N v1 (24 : Int32) m) (fun  m_5 => some (m_5))
def f_X10_append (N : Nat) (v1 : Int32) (v2 : Int32) (v3 : Int32) (v4 : Int32) (v5 : Int32) (m : Mem) : Option (Int32 × Mem) :=
  wr (sI m 95 0 (0 : Int32)) (fun m_1 => (if ((gI m_1 95 7) + (20 : Int32)) ≤ (800 : Int32) then b1 (f_X10_four N v1 m_1) (fun m_2 => b1 (f_X10_four N v2 m_2) (fun m_3 => b1 (f_X10_four N v3 m_3) (fun m_4 => b1 (f_X10_four N v4 m_4) (fun m_5 => b1 (f_X10_four N v5 m_5) (fun m_6 => some (gI m_6 95 7, m_6)))))) else b2 (f_X10_fails N (1 : Int32) m_1) (fun r_7 m_7 => some (r_7, m_7))))
def f_X10_truncate (N : Nat) (v1 : Int32) (m : Mem) : Option (Int32 × Mem) :=
  wr (sI m 95 0 (0 : Int32)) (fun m_1 => b2 (f_X10_in N v1 (0 : Int32) (gI m_1 95 7) m_1) (fun r_2 m_2 => (if r_2 = 0 then b2 (f_X10_fails N (1 : Int32) m_2) (fun r_4 m_4 => some (r_4, m_4)) else wr (sI m_2 95 7 v1) (fun m_3 => some (gI m_3 95 7, m_3)))))
def B_X10_here_39 (N : Nat) (rc : Mem → Option (Mem))  (m : Mem) : Option (Mem) :=
  wr (sI m 95 8 ((gI m 95 8) + (1 : Int32))) (fun m_2 => rc  m_2)
def T_X10_here_0 (N : Nat) (rc : Mem → Option (Mem))  (m : Mem) : Option (Mem) :=
  (if (gI m 95 7) ≤ (gI m 95 8) then some (m) else gd (inb (gI m 95 8) 800) ((if (gI m 100 (gI m 95 8).toNatClampNeg) = (32 : Int32) then B_X10_here_39 N rc  m else (if (gI m 100 (gI m 95 8).toNatClampNeg) = (10 : Int32) then B_X10_here_39 N rc  m else some (m)))))
def L_X10_here_0 (N : Nat) : Nat → Mem → Option (Mem)
  | 0 => fun _ => none
  | n + 1 => T_X10_here_0 N (L_X10_here_0 N n)
def B_X10_here_52 (N : Nat)  (m : Mem) : Option (Int32 × Mem) :=
  (if (gI m 95 7) ≤ (gI m 95 8) then some ((-1 : Int32), m) else gd (inb (gI m 95 8) 800) (some (gI m 100 (gI m 95 8).toNatClampNeg, m)))
def f_X10_here (N : Nat)  (m : Mem) : Option (Int32 × Mem) :=
  l1 (L_X10_here_0 N N  m) (fun  m_6 => B_X10_here_52 N  m_6)
def f_X10_wrong (N : Nat) (v1 : Int32) (v2 : Int32) (m : Mem) : Option (Mem) :=
  (if (gI m 95 11) = 0 then wr (sI m 95 11 (1 : Int32)) (fun m_1 => wr (sI m_1 95 9 v1) (fun m_2 => wr (sI m_2 95 10 v2) (fun m_3 => some (m_3)))) else some (m))
def T_X10_wordEnd_5 (N : Nat) (rc : Int32 → Mem → Option (Int32 × Mem)) (v1 : Int32) (m : Mem) : Option (Int32 × Mem) :=
  (if (gI m 95 7) ≤ v1 then some ((v1, m)) else gd (inb v1 800) (b2 (f_X10_in N (gI m 100 v1.toNatClampNeg) (97 : Int32) (122 : Int32) m) (fun r_2 m_2 => (if r_2 = 0 then some ((v1, m_2)) else rc (v1 + (1 : Int32)) m_2))))
def L_X10_wordEnd_5 (N : Nat) : Nat → Int32 → Mem → Option (Int32 × Mem)
  | 0 => fun _ _ => none
  | n + 1 => T_X10_wordEnd_5 N (L_X10_wordEnd_5 N n)
def f_X10_wordEnd (N : Nat)  (m : Mem) : Option (Int32 × Mem) :=
  l2 (L_X10_wordEnd_5 N N (gI m 95 8) m) (fun v1_5 m_5 => some (v1_5, m_5))
def T_X10_word_13 (N : Nat) (rc : Int64 → Int32 → Int32 → Mem → Option (Int64 × Mem)) (v1 : Int64) (v3 : Int32) (v4 : Int32) (m : Mem) : Option (Int64 × Mem) :=
  (if v3 ≤ v4 then some ((v1, m)) else (if (v3 - (gI m 95 8)) ≤ (9 : Int32) then gd (inb v4 800) (rc ((((27 : Int64) * v1) + ((gI m 100 v4.toNatClampNeg).toInt64)) - (96 : Int64)) v3 (v4 + (1 : Int32)) m) else rc (-1 : Int64) v3 (v4 + (1 : Int32)) m))
def L_X10_word_13 (N : Nat) : Nat → Int64 → Int32 → Int32 → Mem → Option (Int64 × Mem)
  | 0 => fun _ _ _ _ => none
  | n + 1 => T_X10_word_13 N (L_X10_word_13 N n)
def f_X10_word (N : Nat)  (m : Mem) : Option (Int64 × Mem) :=
  b2 (f_X10_wordEnd N  m) (fun r_1 m_1 => l2 (L_X10_word_13 N N (0 : Int64) r_1 (gI m_1 95 8) m_1) (fun v1_5 m_5 => some (v1_5, m_5)))
def B_X10_number_99 (N : Nat) (rc : Int32 → Int32 → Int32 → Int32 → Int32 → Mem → Option (Int32 × Int32 × Int32 × Int32 × Int32 × Mem)) (v1 : Int32) (v2 : Int32) (v3 : Int32) (v4 : Int32) (s0 : Int32) (m : Mem) : Option (Int32 × Int32 × Int32 × Int32 × Int32 × Mem) :=
  wr (sI m 95 8 ((gI m 95 8) + (1 : Int32))) (fun m_5 => rc v1 v2 v3 v4 s0 m_5)
def T_X10_number_30 (N : Nat) (rc : Int32 → Int32 → Int32 → Int32 → Int32 → Mem → Option (Int32 × Int32 × Int32 × Int32 × Int32 × Mem)) (v1 : Int32) (v2 : Int32) (v3 : Int32) (v4 : Int32) (v5 : Int32) (m : Mem) : Option (Int32 × Int32 × Int32 × Int32 × Int32 × Mem) :=
  (if v3 = 0 then some ((v1, v2, v3, v4, v5, m)) else (if (gI m 95 7) ≤ (gI m 95 8) then some ((v1, v2, v3, v4, v5, m)) else gd (inb (gI m 95 8) 800) (b2 (f_X10_in N (gI m 100 (gI m 95 8).toNatClampNeg) (48 : Int32) (57 : Int32) m) (fun r_4 m_4 => (if r_4 = 0 then some ((v1, v2, v3, v4, v5, m_4)) else (if (6 : Int32) ≤ ((gI m_4 95 8) - v4) then B_X10_number_99 N rc v1 v2 v3 v4 v5 m_4 else gd (inb (gI m_4 95 8) 800) (B_X10_number_99 N rc v1 v2 v3 v4 ((((10 : Int32) * v5) + (gI m_4 100 (gI m_4 95 8).toNatClampNeg)) - (48 : Int32)) m_4)))))))
def L_X10_number_30 (N : Nat) : Nat → Int32 → Int32 → Int32 → Int32 → Int32 → Mem → Option (Int32 × Int32 × Int32 × Int32 × Int32 × Mem)
  | 0 => fun _ _ _ _ _ _ => none
  | n + 1 => T_X10_number_30 N (L_X10_number_30 N n)
def B_X10_number_157 (N : Nat) (v5 : Int32) (m : Mem) : Option (Int32 × Mem) :=
  (if (gI m 95 11) = 0 then some (v5, m) else some ((0 : Int32), m))
def B_X10_number_130 (N : Nat) (v4 : Int32) (v5 : Int32) (m : Mem) : Option (Int32 × Mem) :=
  b1 (f_X10_wrong N (1 : Int32) v4 m) (fun m_12 => B_X10_number_157 N v5 m_12)
def B_X10_number_114 (N : Nat) (v1 : Int32) (v2 : Int32) (v3 : Int32) (v4 : Int32) (v5 : Int32) (m : Mem) : Option (Int32 × Mem) :=
  (if v3 = 0 then B_X10_number_130 N v4 v5 m else (if ((gI m 95 8) - v4) ≤ (6 : Int32) then b2 (f_X10_in N v5 v1 v2 m) (fun r_14 m_14 => (if r_14 = 0 then b1 (f_X10_wrong N (2 : Int32) v4 m_14) (fun m_15 => B_X10_number_157 N v5 m_15) else B_X10_number_157 N v5 m_14)) else B_X10_number_130 N v4 v5 m))
def f_X10_number (N : Nat) (v1 : Int32) (v2 : Int32) (m : Mem) : Option (Int32 × Mem) :=
  (if (gI m 95 11) = 0 then b2 (f_X10_here N  m) (fun r_1 m_1 => b2 (f_X10_in N r_1 (48 : Int32) (57 : Int32) m_1) (fun r_2 m_2 => l6 (L_X10_number_30 N N v1 v2 r_2 (gI m_2 95 8) (0 : Int32) m_2) (fun v1_11 v2_11 v3_11 v4_11 v5_11 m_11 => B_X10_number_114 N v1_11 v2_11 v3_11 v4_11 v5_11 m_11))) else some ((0 : Int32), m))
def f_X10_takes (N : Nat) (v1 : Int64) (m : Mem) : Option (Int32 × Mem) :=
  (if (gI m 95 11) = 0 then b2 (f_X10_here N  m) (fun r_1 m_1 => (if r_1 = (-1 : Int32) then some ((0 : Int32), m_1) else b2 (f_X10_word N  m_1) (fun r_2 m_2 => (if (lg_cmp r_2 v1) = 0 then b2 (f_X10_wordEnd N  m_2) (fun r_3 m_3 => wr (sI m_3 95 8 r_3) (fun m_4 => some ((1 : Int32), m_4))) else some ((0 : Int32), m_2))))) else some ((0 : Int32), m))
def f_X10_adds (N : Nat) (v1 : Int32) (v2 : Int32) (m : Mem) : Option (Int32 × Mem) :=
  gd (inb v1 151) ((if (gI m 97 v1.toNatClampNeg) = v2 then b1 (f_X10_wrong N (3 : Int32) (gI m 95 8) m) (fun m_4 => some ((0 : Int32), m_4)) else b2 (f_X10_wordEnd N  m) (fun r_2 m_2 => wr (sI m_2 95 8 r_2) (fun m_3 => some ((1 : Int32), m_3)))))
def f_X10_panelLine (N : Nat)  (m : Mem) : Option (Mem) :=
  b2 (f_X10_adds N (0 : Int32) (4 : Int32) m) (fun r_1 m_1 => (if r_1 = 0 then some (m_1) else b2 (f_X10_number N (0 : Int32) (100000 : Int32) m_1) (fun r_2 m_2 => gd (inb ((7 : Int32) + (gI m_1 97 0)) 151) (wr (sI m_2 97 ((7 : Int32) + (gI m_1 97 0)).toNatClampNeg r_2) (fun m_4 => wr (sI m_4 97 0 ((gI m_4 97 0) + (1 : Int32))) (fun m_5 => some (m_5)))))))
def T_X10_reviewerLine_110 (N : Nat) (rc : Int32 → Int32 → Mem → Option (Int32 × Int32 × Mem)) (v1 : Int32) (v2 : Int32) (m : Mem) : Option (Int32 × Int32 × Mem) :=
  (if (gI m 95 11) = 0 then b2 (f_X10_here N  m) (fun r_12 m_12 => b2 (f_X10_in N r_12 (48 : Int32) (57 : Int32) m_12) (fun r_13 m_13 => (if r_13 = 0 then some ((v1, v2, m_13)) else b2 (f_X10_number N (0 : Int32) (7 : Int32) m_13) (fun r_14 m_14 => rc v1 (v2 ||| ((1 : Int32) <<< (r_14 &&& 31))) m_14)))) else some ((v1, v2, m)))
def L_X10_reviewerLine_110 (N : Nat) : Nat → Int32 → Int32 → Mem → Option (Int32 × Int32 × Mem)
  | 0 => fun _ _ _ => none
  | n + 1 => T_X10_reviewerLine_110 N (L_X10_reviewerLine_110 N n)
def B_X10_reviewerLine_146 (N : Nat) (v1 : Int32) (v2 : Int32) (m : Mem) : Option (Mem) :=
  gd (inb (v1 + (3 : Int32)) 151) (wr (sI m 97 (v1 + (3 : Int32)).toNatClampNeg v2) (fun m_19 => wr (sI m_19 97 1 ((gI m_19 97 1) + (1 : Int32))) (fun m_20 => some (m_20))))
def B_X10_reviewerLine_100 (N : Nat) (v1 : Int32) (m : Mem) : Option (Mem) :=
  b2 (f_X10_number N (0 : Int32) (7 : Int32) m) (fun r_11 m_11 => l3 (L_X10_reviewerLine_110 N N v1 ((1 : Int32) <<< (r_11 &&& 31)) m_11) (fun v1_17 v2_17 m_17 => B_X10_reviewerLine_146 N v1_17 v2_17 m_17))
def f_X10_reviewerLine (N : Nat)  (m : Mem) : Option (Mem) :=
  b2 (f_X10_adds N (1 : Int32) (12 : Int32) m) (fun r_1 m_1 => (if r_1 = 0 then some (m_1) else b2 (f_X10_number N (0 : Int32) ((gI m_1 97 0) - (1 : Int32)) m_1) (fun r_2 m_2 => gd (inb (((11 : Int32) + ((4 : Int32) * (gI m_1 97 1))) + (0 : Int32)) 151) (wr (sI m_2 97 (((11 : Int32) + ((4 : Int32) * (gI m_1 97 1))) + (0 : Int32)).toNatClampNeg r_2) (fun m_4 => b2 (f_X10_number N (0 : Int32) (9 : Int32) m_4) (fun r_5 m_5 => gd (inb (((11 : Int32) + ((4 : Int32) * (gI m_1 97 1))) + (1 : Int32)) 151) (wr (sI m_5 97 (((11 : Int32) + ((4 : Int32) * (gI m_1 97 1))) + (1 : Int32)).toNatClampNeg r_5) (fun m_7 => b2 (f_X10_number N (1 : Int32) (10 : Int32) m_7) (fun r_8 m_8 => gd (inb (((11 : Int32) + ((4 : Int32) * (gI m_1 97 1))) + (2 : Int32)) 151) (wr (sI m_8 97 (((11 : Int32) + ((4 : Int32) * (gI m_1 97 1))) + (2 : Int32)).toNatClampNeg r_8) (fun m_10 => (if (gI m_10 95 11) = 0 then b2 (f_X10_takes N (295271344 : Int64) m_10) (fun r_21 m_21 => (if r_21 = 0 then b1 (f_X10_wrong N (1 : Int32) (gI m_21 95 8) m_21) (fun m_22 => B_X10_reviewerLine_100 N ((11 : Int32) + ((4 : Int32) * (gI m_1 97 1))) m_22) else B_X10_reviewerLine_100 N ((11 : Int32) + ((4 : Int32) * (gI m_1 97 1))) m_21)) else B_X10_reviewerLine_100 N ((11 : Int32) + ((4 : Int32) * (gI m_1 97 1))) m_10))))))))))))
def B_X10_proposalLine_131 (N : Nat) (s0 : Int32) (s1 : Int32) (m : Mem) : Option (Mem) :=
  gd (inb s1 151) (wr (sI m 97 s1.toNatClampNeg s0) (fun m_16 => wr (sI m_16 97 2 ((gI m_16 97 2) + (1 : Int32))) (fun m_17 => some (m_17))))
def f_X10_proposalLine (N : Nat)  (m : Mem) : Option (Mem) :=
  b2 (f_X10_adds N (2 : Int32) (16 : Int32) m) (fun r_1 m_1 => (if r_1 = 0 then some (m_1) else b2 (f_X10_number N (0 : Int32) ((gI m_1 97 0) - (1 : Int32)) m_1) (fun r_2 m_2 => gd (inb (((59 : Int32) + ((5 : Int32) * (gI m_1 97 2))) + (0 : Int32)) 151) (wr (sI m_2 97 (((59 : Int32) + ((5 : Int32) * (gI m_1 97 2))) + (0 : Int32)).toNatClampNeg r_2) (fun m_4 => b2 (f_X10_number N (0 : Int32) (9 : Int32) m_4) (fun r_5 m_5 => gd (inb (((59 : Int32) + ((5 : Int32) * (gI m_1 97 2))) + (1 : Int32)) 151) (wr (sI m_5 97 (((59 : Int32) + ((5 : Int32) * (gI m_1 97 2))) + (1 : Int32)).toNatClampNeg r_5) (fun m_7 => b2 (f_X10_number N (0 : Int32) (7 : Int32) m_7) (fun r_8 m_8 => gd (inb (((59 : Int32) + ((5 : Int32) * (gI m_1 97 2))) + (2 : Int32)) 151) (wr (sI m_8 97 (((59 : Int32) + ((5 : Int32) * (gI m_1 97 2))) + (2 : Int32)).toNatClampNeg r_8) (fun m_10 => b2 (f_X10_number N (1 : Int32) (9999 : Int32) m_10) (fun r_11 m_11 => gd (inb (((59 : Int32) + ((5 : Int32) * (gI m_1 97 2))) + (3 : Int32)) 151) (wr (sI m_11 97 (((59 : Int32) + ((5 : Int32) * (gI m_1 97 2))) + (3 : Int32)).toNatClampNeg r_11) (fun m_13 => b2 (f_X10_takes N (6476969 : Int64) m_13) (fun r_14 m_14 => (if r_14 = 0 then B_X10_proposalLine_131 N (gI m_14 97 (((59 : Int32) + ((5 : Int32) * (gI m_1 97 2))) + (3 : Int32)).toNatClampNeg) (((59 : Int32) + ((5 : Int32) * (gI m_1 97 2))) + (4 : Int32)) m_14 else b2 (f_X10_number N (1 : Int32) (gI m_14 97 (((59 : Int32) + ((5 : Int32) * (gI m_1 97 2))) + (3 : Int32)).toNatClampNeg) m_14) (fun r_18 m_18 => B_X10_proposalLine_131 N r_18 (((59 : Int32) + ((5 : Int32) * (gI m_1 97 2))) + (4 : Int32)) m_18)))))))))))))))))
def f_X10_conflictLine (N : Nat)  (m : Mem) : Option (Mem) :=
  b2 (f_X10_wordEnd N  m) (fun r_1 m_1 => wr (sI m_1 95 8 r_1) (fun m_2 => b2 (f_X10_number N (0 : Int32) ((gI m_2 97 1) - (1 : Int32)) m_2) (fun r_3 m_3 => b2 (f_X10_number N (0 : Int32) ((gI m_3 97 2) - (1 : Int32)) m_3) (fun r_4 m_4 => gd (inb ((139 : Int32) + r_3) 151) (wr (sI m_4 97 ((139 : Int32) + r_3).toNatClampNeg ((gI m_4 97 ((139 : Int32) + r_3).toNatClampNeg) ||| ((1 : Int32) <<< (r_4 &&& 31)))) (fun m_6 => some (m_6)))))))
def B_X10_textLine_215 (N : Nat)  (m : Mem) : Option (Mem) :=
  wr (sI m 95 8 ((gI m 95 8) + (1 : Int32))) (fun m_7 => some (m_7))
def B_X10_textLine_190 (N : Nat)  (m : Mem) : Option (Mem) :=
  (if (gI m 95 11) = 0 then b2 (f_X10_here N  m) (fun r_8 m_8 => (if r_8 = (59 : Int32) then B_X10_textLine_215 N  m_8 else b1 (f_X10_wrong N (1 : Int32) (gI m_8 95 8) m_8) (fun m_9 => B_X10_textLine_215 N  m_9))) else B_X10_textLine_215 N  m)
def B_X10_textLine_137 (N : Nat) (s0 : Int32) (m : Mem) : Option (Mem) :=
  b2 (f_X10_number N (0 : Int32) (100000 : Int32) m) (fun r_4 m_4 => gd (inb s0 151) (wr (sI m_4 97 s0.toNatClampNeg r_4) (fun m_6 => B_X10_textLine_190 N  m_6)))
def B_X10_textLine_112 (N : Nat) (v1 : Int64) (m : Mem) : Option (Mem) :=
  b2 (f_X10_wordEnd N  m) (fun r_2 m_2 => wr (sI m_2 95 8 r_2) (fun m_3 => (if (lg_cmp v1 (243140 : Int64)) = 0 then B_X10_textLine_137 N (4 : Int32) m_3 else B_X10_textLine_137 N (5 : Int32) m_3)))
def f_X10_textLine (N : Nat)  (m : Mem) : Option (Mem) :=
  b2 (f_X10_word N  m) (fun r_1 m_1 => (if (lg_cmp r_1 (8533092 : Int64)) = 0 then b1 (f_X10_panelLine N  m_1) (fun m_32 => B_X10_textLine_190 N  m_32) else (if (lg_cmp r_1 (190544034357 : Int64)) = 0 then b1 (f_X10_reviewerLine N  m_1) (fun m_30 => B_X10_textLine_190 N  m_30) else (if (lg_cmp r_1 (174563265846 : Int64)) = 0 then b1 (f_X10_proposalLine N  m_1) (fun m_28 => B_X10_textLine_190 N  m_28) else (if (lg_cmp r_1 (37396683146 : Int64)) = 0 then b1 (f_X10_conflictLine N  m_1) (fun m_26 => B_X10_textLine_190 N  m_26) else (if (lg_cmp r_1 (7057186471 : Int64)) = 0 then b2 (f_X10_wordEnd N  m_1) (fun r_21 m_21 => wr (sI m_21 95 8 r_21) (fun m_22 => b2 (f_X10_number N (1 : Int32) (4 : Int32) m_22) (fun r_23 m_23 => wr (sI m_23 97 3 r_23) (fun m_24 => B_X10_textLine_190 N  m_24)))) else (if (lg_cmp r_1 (243140 : Int64)) = 0 then B_X10_textLine_112 N r_1 m_1 else (if (lg_cmp r_1 (326280 : Int64)) = 0 then B_X10_textLine_112 N r_1 m_1 else (if (lg_cmp r_1 (6564179 : Int64)) = 0 then b2 (f_X10_wordEnd N  m_1) (fun r_14 m_14 => wr (sI m_14 95 8 r_14) (fun m_15 => b2 (f_X10_number N (0 : Int32) (99 : Int32) m_15) (fun r_16 m_16 => wr (sI m_16 97 6 r_16) (fun m_17 => B_X10_textLine_190 N  m_17)))) else b1 (f_X10_wrong N (1 : Int32) (gI m_1 95 8) m_1) (fun m_13 => B_X10_textLine_190 N  m_13))))))))))
def T_X10_load_17 (N : Nat) (rc : Int32 → Mem → Option (Mem)) (v1 : Int32) (m : Mem) : Option (Mem) :=
  (if (151 : Int32) ≤ v1 then some (m) else gd (inb v1 151) (wr (sI m 97 v1.toNatClampNeg (0 : Int32)) (fun m_5 => rc (v1 + (1 : Int32)) m_5)))
def L_X10_load_17 (N : Nat) : Nat → Int32 → Mem → Option (Mem)
  | 0 => fun _ _ => none
  | n + 1 => T_X10_load_17 N (L_X10_load_17 N n)
def T_X10_load_63 (N : Nat) (rc : Mem → Option (Mem))  (m : Mem) : Option (Mem) :=
  (if (gI m 95 11) = 0 then b2 (f_X10_here N  m) (fun r_12 m_12 => (if r_12 = (-1 : Int32) then some (m_12) else b1 (f_X10_textLine N  m_12) (fun m_13 => rc  m_13))) else some (m))
def L_X10_load_63 (N : Nat) : Nat → Mem → Option (Mem)
  | 0 => fun _ => none
  | n + 1 => T_X10_load_63 N (L_X10_load_63 N n)
def T_X10_load_105 (N : Nat) (rc : Int32 → Mem → Option (Mem)) (v1 : Int32) (m : Mem) : Option (Mem) :=
  (if (151 : Int32) ≤ v1 then some (m) else gd (inb v1 151) (wr (sI m 96 v1.toNatClampNeg (gI m 97 v1.toNatClampNeg)) (fun m_19 => rc (v1 + (1 : Int32)) m_19)))
def L_X10_load_105 (N : Nat) : Nat → Int32 → Mem → Option (Mem)
  | 0 => fun _ _ => none
  | n + 1 => T_X10_load_105 N (L_X10_load_105 N n)
def T_X10_load_132 (N : Nat) (rc : Int32 → Mem → Option (Mem)) (v1 : Int32) (m : Mem) : Option (Mem) :=
  (if (218 : Int32) ≤ v1 then some (m) else gd (inb v1 218) (wr (sI m 98 v1.toNatClampNeg (0 : Int32)) (fun m_23 => rc (v1 + (1 : Int32)) m_23)))
def L_X10_load_132 (N : Nat) : Nat → Int32 → Mem → Option (Mem)
  | 0 => fun _ _ => none
  | n + 1 => T_X10_load_132 N (L_X10_load_132 N n)
def T_X10_load_166 (N : Nat) (rc : Int32 → Mem → Option (Mem)) (v1 : Int32) (m : Mem) : Option (Mem) :=
  (if (12 : Int32) ≤ v1 then some (m) else gd (inb ((139 : Int32) + v1) 151) (gd (inb ((2 : Int32) + v1) 218) (wr (sI m 98 ((2 : Int32) + v1).toNatClampNeg (gI m 96 ((139 : Int32) + v1).toNatClampNeg)) (fun m_29 => rc (v1 + (1 : Int32)) m_29))))
def L_X10_load_166 (N : Nat) : Nat → Int32 → Mem → Option (Mem)
  | 0 => fun _ _ => none
  | n + 1 => T_X10_load_166 N (L_X10_load_166 N n)
def B_X10_load_85 (N : Nat)  (m : Mem) : Option (Int32 × Mem) :=
  wr (sI m 95 7 (0 : Int32)) (fun m_17 => (if (gI m_17 95 11) = 0 then l1 (L_X10_load_105 N N (0 : Int32) m_17) (fun  m_21 => l1 (L_X10_load_132 N N (0 : Int32) m_21) (fun  m_25 => wr (sI m_25 98 0 (gI m_25 96 4)) (fun m_26 => l1 (L_X10_load_166 N N (0 : Int32) m_26) (fun  m_31 => wr (sI m_31 95 5 (0 : Int32)) (fun m_32 => some (gI m_32 96 2, m_32)))))) else b2 (f_X10_fails N (1 : Int32) m_17) (fun r_33 m_33 => some (r_33, m_33))))
def f_X10_load (N : Nat)  (m : Mem) : Option (Int32 × Mem) :=
  wr (sI m 95 0 (0 : Int32)) (fun m_1 => wr (sI m_1 95 9 (0 : Int32)) (fun m_2 => wr (sI m_2 95 10 (-1 : Int32)) (fun m_3 => l1 (L_X10_load_17 N N (0 : Int32) m_3) (fun  m_7 => wr (sI m_7 97 3 (2 : Int32)) (fun m_8 => wr (sI m_8 97 6 (20 : Int32)) (fun m_9 => wr (sI m_9 95 8 (0 : Int32)) (fun m_10 => wr (sI m_10 95 11 (0 : Int32)) (fun m_11 => l1 (L_X10_load_63 N N  m_11) (fun  m_16 => B_X10_load_85 N  m_16)))))))))
def f_X10_errorCode (N : Nat)  (m : Mem) : Option (Int32 × Mem) :=
  wr (sI m 95 0 (0 : Int32)) (fun m_1 => some (gI m_1 95 9, m_1))
def f_X10_errorPosition (N : Nat)  (m : Mem) : Option (Int32 × Mem) :=
  wr (sI m 95 0 (0 : Int32)) (fun m_1 => some (gI m_1 95 10, m_1))
def T_X10_keeps_57 (N : Nat) (rc : Int32 → Mem → Option (Mem)) (v1 : Int32) (m : Mem) : Option (Mem) :=
  (if (218 : Int32) ≤ v1 then some (m) else gd (inb v1 218) (gd (inb (((218 : Int32) * (gI m 95 5)) + v1) 2180) (wr (sI m 99 (((218 : Int32) * (gI m 95 5)) + v1).toNatClampNeg (gI m 98 v1.toNatClampNeg)) (fun m_3 => rc (v1 + (1 : Int32)) m_3))))
def L_X10_keeps_57 (N : Nat) : Nat → Int32 → Mem → Option (Mem)
  | 0 => fun _ _ => none
  | n + 1 => T_X10_keeps_57 N (L_X10_keeps_57 N n)
def B_X10_keeps_55 (N : Nat)  (m : Mem) : Option (Mem) :=
  l1 (L_X10_keeps_57 N N (0 : Int32) m) (fun  m_5 => wr (sI m_5 95 5 ((gI m_5 95 5) + (1 : Int32))) (fun m_6 => some (m_6)))
def T_X10_keeps_21 (N : Nat) (rc : Int32 → Mem → Option (Mem)) (v1 : Int32) (m : Mem) : Option (Mem) :=
  (if ((gI m 95 5) * (218 : Int32)) ≤ v1 then some (m) else gd (inb (v1 + (218 : Int32)) 2180) (gd (inb v1 2180) (wr (sI m 99 v1.toNatClampNeg (gI m 99 (v1 + (218 : Int32)).toNatClampNeg)) (fun m_10 => rc (v1 + (1 : Int32)) m_10))))
def L_X10_keeps_21 (N : Nat) : Nat → Int32 → Mem → Option (Mem)
  | 0 => fun _ _ => none
  | n + 1 => T_X10_keeps_21 N (L_X10_keeps_21 N n)
def f_X10_keeps (N : Nat)  (m : Mem) : Option (Mem) :=
  (if (gI m 95 5) = (10 : Int32) then wr (sI m 95 5 ((gI m 95 5) - (1 : Int32))) (fun m_7 => l1 (L_X10_keeps_21 N N (0 : Int32) m_7) (fun  m_12 => B_X10_keeps_55 N  m_12)) else B_X10_keeps_55 N  m)
def T_X10_undo_37 (N : Nat) (rc : Int32 → Mem → Option (Mem)) (v1 : Int32) (m : Mem) : Option (Mem) :=
  (if (218 : Int32) ≤ v1 then some (m) else gd (inb (((218 : Int32) * (gI m 95 5)) + v1) 2180) (gd (inb v1 218) (wr (sI m 98 v1.toNatClampNeg (gI m 99 (((218 : Int32) * (gI m 95 5)) + v1).toNatClampNeg)) (fun m_5 => rc (v1 + (1 : Int32)) m_5))))
def L_X10_undo_37 (N : Nat) : Nat → Int32 → Mem → Option (Mem)
  | 0 => fun _ _ => none
  | n + 1 => T_X10_undo_37 N (L_X10_undo_37 N n)
def B_X10_undo_13 (N : Nat) (s0 : Int32) (m : Mem) : Option (Int32 × Mem) :=
  wr (sI m 95 0 s0) (fun m_1 => (if (gI m_1 95 0) ≤ 0 then wr (sI m_1 95 5 ((gI m_1 95 5) - (1 : Int32))) (fun m_2 => l1 (L_X10_undo_37 N N (0 : Int32) m_2) (fun  m_7 => some (gI m_7 95 5, m_7))) else some ((0 : Int32), m_1)))
def f_X10_undo (N : Nat)  (m : Mem) : Option (Int32 × Mem) :=
  (if (gI m 95 5) = 0 then B_X10_undo_13 N (1 : Int32) m else B_X10_undo_13 N (0 : Int32) m)
def f_X10_isReview (N : Nat) (v1 : Int32) (v2 : Int32) (m : Mem) : Option (Int32 × Mem) :=
  gd (inb ((14 : Int32) + v1) 218) (b2 (f_X10_has N (gI m 98 ((14 : Int32) + v1).toNatClampNeg) v2 m) (fun r_2 m_2 => gd (isB r_2) (some (r_2, m_2))))
def f_X10_score (N : Nat) (v1 : Int32) (v2 : Int32) (m : Mem) : Option (Int32 × Mem) :=
  gd (inb (((26 : Int32) + ((16 : Int32) * v1)) + v2) 218) (some (gI m 98 (((26 : Int32) + ((16 : Int32) * v1)) + v2).toNatClampNeg, m))
def T_X10_reviewsOf_4 (N : Nat) (rc : Int32 → Int32 → Int32 → Mem → Option (Int32 × Mem)) (v1 : Int32) (v2 : Int32) (v3 : Int32) (m : Mem) : Option (Int32 × Mem) :=
  (if (gI m 96 1) ≤ v3 then some ((v2, m)) else b2 (f_X10_isReview N v3 v1 m) (fun r_1 m_1 => (if r_1 = 0 then rc v1 (v2 + (0 : Int32)) (v3 + (1 : Int32)) m_1 else rc v1 (v2 + (1 : Int32)) (v3 + (1 : Int32)) m_1)))
def L_X10_reviewsOf_4 (N : Nat) : Nat → Int32 → Int32 → Int32 → Mem → Option (Int32 × Mem)
  | 0 => fun _ _ _ _ => none
  | n + 1 => T_X10_reviewsOf_4 N (L_X10_reviewsOf_4 N n)
def f_X10_reviewsOf (N : Nat) (v1 : Int32) (m : Mem) : Option (Int32 × Mem) :=
  l2 (L_X10_reviewsOf_4 N N v1 (0 : Int32) (0 : Int32) m) (fun v2_4 m_4 => some (v2_4, m_4))
def f_X10_reviewsBy (N : Nat) (v1 : Int32) (m : Mem) : Option (Int32 × Mem) :=
  gd (inb ((14 : Int32) + v1) 218) (b2 (f_X10_bits N (gI m 98 ((14 : Int32) + v1).toNatClampNeg) m) (fun r_2 m_2 => some (r_2, m_2)))
def T_X10_scoredOf_4 (N : Nat) (rc : Int32 → Int32 → Int32 → Mem → Option (Int32 × Mem)) (v1 : Int32) (v2 : Int32) (v3 : Int32) (m : Mem) : Option (Int32 × Mem) :=
  (if (16 : Int32) ≤ v3 then some ((v2, m)) else b2 (f_X10_score N v1 v3 m) (fun r_1 m_1 => (if r_1 ≤ 0 then rc v1 (v2 + (0 : Int32)) (v3 + (1 : Int32)) m_1 else rc v1 (v2 + (1 : Int32)) (v3 + (1 : Int32)) m_1)))
def L_X10_scoredOf_4 (N : Nat) : Nat → Int32 → Int32 → Int32 → Mem → Option (Int32 × Mem)
  | 0 => fun _ _ _ _ => none
  | n + 1 => T_X10_scoredOf_4 N (L_X10_scoredOf_4 N n)
def f_X10_scoredOf (N : Nat) (v1 : Int32) (m : Mem) : Option (Int32 × Mem) :=
  l2 (L_X10_scoredOf_4 N N v1 (0 : Int32) (0 : Int32) m) (fun v2_4 m_4 => some (v2_4, m_4))
def B_X10_hasConflict_30 (N : Nat)  (m : Mem) : Option (Int32 × Mem) :=
  some ((1 : Int32), m)
def f_X10_hasConflict (N : Nat) (v1 : Int32) (v2 : Int32) (m : Mem) : Option (Int32 × Mem) :=
  b2 (f_X10_reviewer N v1 (1 : Int32) m) (fun r_1 m_1 => b2 (f_X10_proposal N v2 (1 : Int32) m_1) (fun r_2 m_2 => (if r_1 = r_2 then B_X10_hasConflict_30 N  m_2 else gd (inb ((2 : Int32) + v1) 218) (b2 (f_X10_has N (gI m_2 98 ((2 : Int32) + v1).toNatClampNeg) v2 m_2) (fun r_4 m_4 => (if r_4 = 0 then some ((0 : Int32), m_4) else B_X10_hasConflict_30 N  m_4))))))
def B_X10_fits_28 (N : Nat)  (m : Mem) : Option (Int32 × Mem) :=
  some ((0 : Int32), m)
def f_X10_fits (N : Nat) (v1 : Int32) (v2 : Int32) (m : Mem) : Option (Int32 × Mem) :=
  b2 (f_X10_reviewer N v1 (0 : Int32) m) (fun r_1 m_1 => b2 (f_X10_proposal N v2 (0 : Int32) m_1) (fun r_2 m_2 => (if r_1 = r_2 then b2 (f_X10_hasConflict N v1 v2 m_2) (fun r_3 m_3 => (if r_3 = 0 then some ((1 : Int32), m_3) else B_X10_fits_28 N  m_3)) else B_X10_fits_28 N  m_2)))
def B_X10_matches_52 (N : Nat)  (m : Mem) : Option (Int32 × Mem) :=
  some ((1 : Int32), m)
def B_X10_matches_56 (N : Nat)  (m : Mem) : Option (Int32 × Mem) :=
  some ((0 : Int32), m)
def f_X10_matches (N : Nat) (v1 : Int32) (v2 : Int32) (m : Mem) : Option (Int32 × Mem) :=
  b2 (f_X10_proposal N v2 (2 : Int32) m) (fun r_1 m_1 => b2 (f_X10_reviewer N v1 (3 : Int32) m_1) (fun r_2 m_2 => b2 (f_X10_has N r_2 r_1 m_2) (fun r_3 m_3 => (if r_3 = 0 then b2 (f_X10_has N r_2 (r_1 + (1 : Int32)) m_3) (fun r_4 m_4 => (if r_4 = 0 then (if r_1 ≤ 0 then B_X10_matches_56 N  m_4 else b2 (f_X10_has N r_2 (r_1 - (1 : Int32)) m_4) (fun r_5 m_5 => (if r_5 = 0 then B_X10_matches_56 N  m_5 else B_X10_matches_52 N  m_5))) else B_X10_matches_52 N  m_4)) else some ((2 : Int32), m_3)))))
def T_X10_count_60 (N : Nat) (rc : Int32 → Int32 → Int32 → Mem → Option (Int32 × Mem)) (v1 : Int32) (v2 : Int32) (v3 : Int32) (m : Mem) : Option (Int32 × Mem) :=
  (if (gI m 96 1) ≤ v3 then some ((v2, m)) else (if v1 = (3 : Int32) then b2 (f_X10_reviewsBy N v3 m) (fun r_7 m_7 => rc v1 (v2 + r_7) (v3 + (1 : Int32)) m_7) else (if v1 = (4 : Int32) then b2 (f_X10_scoredOf N v3 m) (fun r_5 m_5 => rc v1 (v2 + r_5) (v3 + (1 : Int32)) m_5) else gd (inb ((2 : Int32) + v3) 218) (b2 (f_X10_bits N (gI m 98 ((2 : Int32) + v3).toNatClampNeg) m) (fun r_4 m_4 => rc v1 (v2 + r_4) (v3 + (1 : Int32)) m_4)))))
def L_X10_count_60 (N : Nat) : Nat → Int32 → Int32 → Int32 → Mem → Option (Int32 × Mem)
  | 0 => fun _ _ _ _ => none
  | n + 1 => T_X10_count_60 N (L_X10_count_60 N n)
def B_X10_count_16 (N : Nat) (v1 : Int32) (s0 : Int32) (m : Mem) : Option (Int32 × Mem) :=
  wr (sI m 95 0 s0) (fun m_2 => (if (gI m_2 95 0) ≤ 0 then (if (3 : Int32) ≤ v1 then (if v1 = (6 : Int32) then b2 (f_X10_bits N (gI m_2 98 1) m_2) (fun r_11 m_11 => some (r_11, m_11)) else l2 (L_X10_count_60 N N v1 (0 : Int32) (0 : Int32) m_2) (fun v2_10 m_10 => some (v2_10, m_10))) else gd (inb v1 151) (some (gI m_2 96 v1.toNatClampNeg, m_2))) else some ((0 : Int32), m_2)))
def f_X10_count (N : Nat) (v1 : Int32) (m : Mem) : Option (Int32 × Mem) :=
  b2 (f_X10_in N v1 (0 : Int32) (6 : Int32) m) (fun r_1 m_1 => (if r_1 = 0 then B_X10_count_16 N v1 (1 : Int32) m_1 else B_X10_count_16 N v1 (0 : Int32) m_1))
def B_X10_areBoth_22 (N : Nat) (s0 : Int32) (m : Mem) : Option (Int32 × Mem) :=
  wr (sI m 95 0 s0) (fun m_2 => (if (gI m_2 95 0) = 0 then some ((1 : Int32), m_2) else some ((0 : Int32), m_2)))
def B_X10_areBoth_21 (N : Nat)  (m : Mem) : Option (Int32 × Mem) :=
  B_X10_areBoth_22 N (1 : Int32) m
def f_X10_areBoth (N : Nat) (v1 : Int32) (v2 : Int32) (m : Mem) : Option (Int32 × Mem) :=
  b2 (f_X10_isReviewer N v1 m) (fun r_1 m_1 => (if r_1 = 0 then B_X10_areBoth_21 N  m_1 else b2 (f_X10_isProposal N v2 m_1) (fun r_4 m_4 => (if r_4 = 0 then B_X10_areBoth_21 N  m_4 else B_X10_areBoth_22 N (0 : Int32) m_4))))
def B_X10_isConflict_22 (N : Nat)  (m : Mem) : Option (Int32 × Mem) :=
  some ((0 : Int32), m)
def f_X10_isConflict (N : Nat) (v1 : Int32) (v2 : Int32) (m : Mem) : Option (Int32 × Mem) :=
  b2 (f_X10_areBoth N v1 v2 m) (fun r_1 m_1 => (if r_1 = 0 then B_X10_isConflict_22 N  m_1 else b2 (f_X10_hasConflict N v1 v2 m_1) (fun r_2 m_2 => (if r_2 = 0 then B_X10_isConflict_22 N  m_2 else some ((1 : Int32), m_2)))))
def f_X10_match (N : Nat) (v1 : Int32) (v2 : Int32) (m : Mem) : Option (Int32 × Mem) :=
  b2 (f_X10_areBoth N v1 v2 m) (fun r_1 m_1 => (if r_1 = 0 then some ((0 : Int32), m_1) else b2 (f_X10_matches N v1 v2 m_1) (fun r_2 m_2 => some (r_2, m_2))))
def B_X10_declare_47 (N : Nat) (v1 : Int32) (v2 : Int32) (s0 : Int32) (m : Mem) : Option (Int32 × Mem) :=
  b1 (f_X10_keeps N  m) (fun m_5 => gd (inb ((2 : Int32) + v1) 218) (wr (sI m_5 98 ((2 : Int32) + v1).toNatClampNeg ((gI m_5 98 ((2 : Int32) + v1).toNatClampNeg) ||| ((1 : Int32) <<< (v2 &&& 31)))) (fun m_7 => gd (isB s0) (some (s0, m_7)))))
def f_X10_declare (N : Nat) (v1 : Int32) (v2 : Int32) (m : Mem) : Option (Int32 × Mem) :=
  b2 (f_X10_areBoth N v1 v2 m) (fun r_1 m_1 => (if r_1 = 0 then some ((0 : Int32), m_1) else b2 (f_X10_isReview N v1 v2 m_1) (fun r_2 m_2 => (if r_2 = 0 then gd (inb ((2 : Int32) + v1) 218) (b2 (f_X10_has N (gI m_2 98 ((2 : Int32) + v1).toNatClampNeg) v2 m_2) (fun r_4 m_4 => (if r_4 = 0 then B_X10_declare_47 N v1 v2 (1 : Int32) m_4 else B_X10_declare_47 N v1 v2 (0 : Int32) m_4))) else wr (sI m_2 95 0 (2 : Int32)) (fun m_10 => some ((0 : Int32), m_10))))))
def B_X10_assign_63 (N : Nat)  (m : Mem) : Option (Int32 × Mem) :=
  b2 (f_X10_fails N (3 : Int32) m) (fun r_4 m_4 => some (r_4, m_4))
def f_X10_assign (N : Nat) (v1 : Int32) (v2 : Int32) (m : Mem) : Option (Int32 × Mem) :=
  b2 (f_X10_areBoth N v1 v2 m) (fun r_1 m_1 => (if r_1 = 0 then some ((0 : Int32), m_1) else b2 (f_X10_fits N v1 v2 m_1) (fun r_2 m_2 => (if r_2 = 0 then b2 (f_X10_fails N (2 : Int32) m_2) (fun r_15 m_15 => some (r_15, m_15)) else b2 (f_X10_isReview N v1 v2 m_2) (fun r_3 m_3 => (if r_3 = 0 then b2 (f_X10_reviewsBy N v1 m_3) (fun r_5 m_5 => b2 (f_X10_reviewer N v1 (2 : Int32) m_5) (fun r_6 m_6 => (if r_6 ≤ r_5 then B_X10_assign_63 N  m_6 else b2 (f_X10_reviewsOf N v2 m_6) (fun r_7 m_7 => (if r_7 < (gI m_7 96 3) then b1 (f_X10_keeps N  m_7) (fun m_8 => gd (inb ((14 : Int32) + v1) 218) (wr (sI m_8 98 ((14 : Int32) + v1).toNatClampNeg ((gI m_8 98 ((14 : Int32) + v1).toNatClampNeg) ||| ((1 : Int32) <<< (v2 &&& 31)))) (fun m_10 => b2 (f_X10_reviewsOf N v2 m_10) (fun r_11 m_11 => some (r_11, m_11))))) else B_X10_assign_63 N  m_7))))) else B_X10_assign_63 N  m_3))))))
def f_X10_removes (N : Nat) (v1 : Int32) (v2 : Int32) (m : Mem) : Option (Mem) :=
  gd (inb ((14 : Int32) + v1) 218) (wr (sI m 98 ((14 : Int32) + v1).toNatClampNeg ((gI m 98 ((14 : Int32) + v1).toNatClampNeg) &&& (((1 : Int32) <<< (v2 &&& 31)) ^^^ (-1 : Int32)))) (fun m_2 => gd (inb (((26 : Int32) + ((16 : Int32) * v1)) + v2) 218) (wr (sI m_2 98 (((26 : Int32) + ((16 : Int32) * v1)) + v2).toNatClampNeg (0 : Int32)) (fun m_4 => some (m_4)))))
def f_X10_orNone (N : Nat) (v0 : Int32) (m : Mem) : Option (Int32 × Mem) :=
  (if v0 = 0 then some ((-1 : Int32), m) else some (v0, m))
def f_X10_unassign (N : Nat) (v1 : Int32) (v2 : Int32) (m : Mem) : Option (Int32 × Mem) :=
  b2 (f_X10_areBoth N v1 v2 m) (fun r_1 m_1 => (if r_1 = 0 then some ((0 : Int32), m_1) else b2 (f_X10_isReview N v1 v2 m_1) (fun r_2 m_2 => (if r_2 = 0 then b2 (f_X10_fails N (2 : Int32) m_2) (fun r_7 m_7 => some (r_7, m_7)) else b1 (f_X10_keeps N  m_2) (fun m_3 => b2 (f_X10_score N v1 v2 m_3) (fun r_4 m_4 => b1 (f_X10_removes N v1 v2 m_4) (fun m_5 => b2 (f_X10_orNone N r_4 m_5) (fun r_6 m_6 => some (r_6, m_6)))))))))
def B_X10_chooses_101 (N : Nat) (rc : Int32 → Int32 → Int32 → Mem → Option (Int32 × Mem)) (v1 : Int32) (v3 : Int32) (s0 : Int32) (m : Mem) : Option (Int32 × Mem) :=
  rc v1 s0 (v3 + (1 : Int32)) m
def B_X10_chooses_96 (N : Nat) (rc : Int32 → Int32 → Int32 → Mem → Option (Int32 × Mem)) (v1 : Int32) (v3 : Int32) (m : Mem) : Option (Int32 × Mem) :=
  B_X10_chooses_101 N rc v1 v3 v3 m
def B_X10_chooses_100 (N : Nat) (rc : Int32 → Int32 → Int32 → Mem → Option (Int32 × Mem)) (v1 : Int32) (v2 : Int32) (v3 : Int32) (m : Mem) : Option (Int32 × Mem) :=
  B_X10_chooses_101 N rc v1 v3 v2 m
def B_X10_chooses_71 (N : Nat) (rc : Int32 → Int32 → Int32 → Mem → Option (Int32 × Mem)) (v1 : Int32) (v2 : Int32) (v3 : Int32) (s0 : Int32) (m : Mem) : Option (Int32 × Mem) :=
  (if 0 < s0 then B_X10_chooses_96 N rc v1 v3 m else (if s0 = 0 then b2 (f_X10_reviewsBy N v3 m) (fun r_7 m_7 => b2 (f_X10_reviewsBy N v2 m_7) (fun r_8 m_8 => (if r_8 ≤ r_7 then B_X10_chooses_100 N rc v1 v2 v3 m_8 else B_X10_chooses_96 N rc v1 v3 m_8))) else B_X10_chooses_100 N rc v1 v2 v3 m))
def T_X10_chooses_4 (N : Nat) (rc : Int32 → Int32 → Int32 → Mem → Option (Int32 × Mem)) (v1 : Int32) (v2 : Int32) (v3 : Int32) (m : Mem) : Option (Int32 × Mem) :=
  (if (gI m 96 1) ≤ v3 then some ((v2, m)) else b2 (f_X10_fits N v3 v1 m) (fun r_1 m_1 => (if r_1 = 0 then rc v1 v2 (v3 + (1 : Int32)) m_1 else b2 (f_X10_isReview N v3 v1 m_1) (fun r_2 m_2 => (if r_2 = 0 then b2 (f_X10_reviewsBy N v3 m_2) (fun r_3 m_3 => b2 (f_X10_reviewer N v3 (2 : Int32) m_3) (fun r_4 m_4 => (if r_3 < r_4 then (if v2 = (-1 : Int32) then B_X10_chooses_71 N rc v1 v2 v3 (1 : Int32) m_4 else b2 (f_X10_matches N v3 v1 m_4) (fun r_5 m_5 => b2 (f_X10_matches N v2 v1 m_5) (fun r_6 m_6 => B_X10_chooses_71 N rc v1 v2 v3 (r_5 - r_6) m_6))) else rc v1 v2 (v3 + (1 : Int32)) m_4))) else rc v1 v2 (v3 + (1 : Int32)) m_2)))))
def L_X10_chooses_4 (N : Nat) : Nat → Int32 → Int32 → Int32 → Mem → Option (Int32 × Mem)
  | 0 => fun _ _ _ _ => none
  | n + 1 => T_X10_chooses_4 N (L_X10_chooses_4 N n)
def f_X10_chooses (N : Nat) (v1 : Int32) (m : Mem) : Option (Int32 × Mem) :=
  l2 (L_X10_chooses_4 N N v1 (-1 : Int32) (0 : Int32) m) (fun v2_17 m_17 => some (v2_17, m_17))
def B_X10_assignAll_89 (N : Nat) (rc : Int32 → Int32 → Int32 → Int32 → Mem → Option (Int32 × Int32 × Int32 × Mem)) (v1 : Int32) (v2 : Int32) (v3 : Int32) (v4 : Int32) (s0 : Int32) (m : Mem) : Option (Int32 × Int32 × Int32 × Mem) :=
  (if s0 = (-1 : Int32) then rc v1 v2 v3 (v4 + (1 : Int32)) m else gd (inb ((14 : Int32) + s0) 218) (wr (sI m 98 ((14 : Int32) + s0).toNatClampNeg ((gI m 98 ((14 : Int32) + s0).toNatClampNeg) ||| ((1 : Int32) <<< (v4 &&& 31)))) (fun m_6 => rc v1 (v2 + (1 : Int32)) v3 (v4 + (1 : Int32)) m_6)))
def B_X10_assignAll_88 (N : Nat) (rc : Int32 → Int32 → Int32 → Int32 → Mem → Option (Int32 × Int32 × Int32 × Mem)) (v1 : Int32) (v2 : Int32) (v3 : Int32) (v4 : Int32) (m : Mem) : Option (Int32 × Int32 × Int32 × Mem) :=
  B_X10_assignAll_89 N rc v1 v2 v3 v4 (-1 : Int32) m
def T_X10_assignAll_47 (N : Nat) (rc : Int32 → Int32 → Int32 → Int32 → Mem → Option (Int32 × Int32 × Int32 × Mem)) (v1 : Int32) (v2 : Int32) (v3 : Int32) (v4 : Int32) (m : Mem) : Option (Int32 × Int32 × Int32 × Mem) :=
  (if (gI m 96 2) ≤ v4 then some ((v1, v2, v3, m)) else b2 (f_X10_proposal N v4 (0 : Int32) m) (fun r_4 m_4 => (if r_4 = v1 then b2 (f_X10_reviewsOf N v4 m_4) (fun r_8 m_8 => (if v3 ≤ r_8 then B_X10_assignAll_88 N rc v1 v2 v3 v4 m_8 else b2 (f_X10_chooses N v4 m_8) (fun r_9 m_9 => B_X10_assignAll_89 N rc v1 v2 v3 v4 r_9 m_9))) else B_X10_assignAll_88 N rc v1 v2 v3 v4 m_4)))
def L_X10_assignAll_47 (N : Nat) : Nat → Int32 → Int32 → Int32 → Int32 → Mem → Option (Int32 × Int32 × Int32 × Mem)
  | 0 => fun _ _ _ _ _ => none
  | n + 1 => T_X10_assignAll_47 N (L_X10_assignAll_47 N n)
def T_X10_assignAll_34 (N : Nat) (rc : Int32 → Int32 → Int32 → Mem → Option (Int32 × Mem)) (v1 : Int32) (v2 : Int32) (v3 : Int32) (m : Mem) : Option (Int32 × Mem) :=
  (if (gI m 96 3) < v3 then some ((v2, m)) else l4 (L_X10_assignAll_47 N N v1 v2 v3 (0 : Int32) m) (fun v1_13 v2_13 v3_13 m_13 => rc v1_13 v2_13 (v3_13 + (1 : Int32)) m_13))
def L_X10_assignAll_34 (N : Nat) : Nat → Int32 → Int32 → Int32 → Mem → Option (Int32 × Mem)
  | 0 => fun _ _ _ _ => none
  | n + 1 => T_X10_assignAll_34 N (L_X10_assignAll_34 N n)
def B_X10_assignAll_14 (N : Nat) (v1 : Int32) (s0 : Int32) (m : Mem) : Option (Int32 × Mem) :=
  wr (sI m 95 0 s0) (fun m_2 => (if (gI m_2 95 0) ≤ 0 then b1 (f_X10_keeps N  m_2) (fun m_3 => l2 (L_X10_assignAll_34 N N v1 (0 : Int32) (1 : Int32) m_3) (fun v2_15 m_15 => some (v2_15, m_15))) else some ((0 : Int32), m_2)))
def f_X10_assignAll (N : Nat) (v1 : Int32) (m : Mem) : Option (Int32 × Mem) :=
  b2 (f_X10_isPanel N v1 m) (fun r_1 m_1 => (if r_1 = 0 then B_X10_assignAll_14 N v1 (1 : Int32) m_1 else B_X10_assignAll_14 N v1 (0 : Int32) m_1))
def T_X10_reviewerOf_37 (N : Nat) (rc : Int32 → Int32 → Int32 → Int32 → Mem → Option ((Mem) ⊕ (Int32 × Mem))) (v1 : Int32) (v2 : Int32) (v3 : Int32) (v4 : Int32) (m : Mem) : Option ((Mem) ⊕ (Int32 × Mem)) :=
  (if (gI m 96 1) ≤ v4 then some (.inl (m)) else (if (gI m 95 0) = 0 then b2 (f_X10_isReview N v4 v1 m) (fun r_3 m_3 => (if r_3 = 0 then rc v1 v2 v3 (v4 + (1 : Int32)) m_3 else (if v3 = v2 then some (.inr ((v4, m_3))) else rc v1 v2 (v3 + (1 : Int32)) (v4 + (1 : Int32)) m_3))) else some (.inl (m))))
def L_X10_reviewerOf_37 (N : Nat) : Nat → Int32 → Int32 → Int32 → Int32 → Mem → Option ((Mem) ⊕ (Int32 × Mem))
  | 0 => fun _ _ _ _ _ => none
  | n + 1 => T_X10_reviewerOf_37 N (L_X10_reviewerOf_37 N n)
def B_X10_reviewerOf_29 (N : Nat) (v1 : Int32) (v2 : Int32) (s0 : Int32) (m : Mem) : Option (Int32 × Mem) :=
  wr (sI m 95 0 s0) (fun m_2 => (L_X10_reviewerOf_37 N N v1 v2 (0 : Int32) (0 : Int32) m_2).bind (fun x9 => match x9 with | .inl (m_8) => some ((0 : Int32), m_8) | .inr ((v4_8, m_8)) => some (v4_8, m_8)))
def B_X10_reviewerOf_28 (N : Nat) (v1 : Int32) (v2 : Int32) (m : Mem) : Option (Int32 × Mem) :=
  B_X10_reviewerOf_29 N v1 v2 (1 : Int32) m
def f_X10_reviewerOf (N : Nat) (v1 : Int32) (v2 : Int32) (m : Mem) : Option (Int32 × Mem) :=
  b2 (f_X10_isProposal N v1 m) (fun r_1 m_1 => (if r_1 = 0 then B_X10_reviewerOf_28 N v1 v2 m_1 else b2 (f_X10_reviewsOf N v1 m_1) (fun r_9 m_9 => b2 (f_X10_in N v2 (0 : Int32) (r_9 - (1 : Int32)) m_9) (fun r_10 m_10 => (if r_10 = 0 then B_X10_reviewerOf_28 N v1 v2 m_10 else B_X10_reviewerOf_29 N v1 v2 (0 : Int32) m_10)))))
def B_X10_loadOf_14 (N : Nat) (v1 : Int32) (s0 : Int32) (m : Mem) : Option (Int32 × Mem) :=
  wr (sI m 95 0 s0) (fun m_2 => (if (gI m_2 95 0) ≤ 0 then b2 (f_X10_reviewsBy N v1 m_2) (fun r_3 m_3 => some (r_3, m_3)) else some ((0 : Int32), m_2)))
def f_X10_loadOf (N : Nat) (v1 : Int32) (m : Mem) : Option (Int32 × Mem) :=
  b2 (f_X10_isReviewer N v1 m) (fun r_1 m_1 => (if r_1 = 0 then B_X10_loadOf_14 N v1 (1 : Int32) m_1 else B_X10_loadOf_14 N v1 (0 : Int32) m_1))
def B_X10_matchSum_83 (N : Nat) (rc : Int32 → Int32 → Int32 → Int32 → Mem → Option (Int32 × Int32 × Int32 × Mem)) (v1 : Int32) (v3 : Int32) (v4 : Int32) (s0 : Int32) (m : Mem) : Option (Int32 × Int32 × Int32 × Mem) :=
  rc v1 (s0 + (0 : Int32)) v3 (v4 + (1 : Int32)) m
def T_X10_matchSum_41 (N : Nat) (rc : Int32 → Int32 → Int32 → Int32 → Mem → Option (Int32 × Int32 × Int32 × Mem)) (v1 : Int32) (v2 : Int32) (v3 : Int32) (v4 : Int32) (m : Mem) : Option (Int32 × Int32 × Int32 × Mem) :=
  (if (gI m 96 1) ≤ v4 then some ((v1, v2, v3, m)) else b2 (f_X10_proposal N v3 (0 : Int32) m) (fun r_3 m_3 => (if r_3 = v1 then b2 (f_X10_isReview N v4 v3 m_3) (fun r_4 m_4 => (if r_4 = 0 then B_X10_matchSum_83 N rc v1 v3 v4 v2 m_4 else b2 (f_X10_matches N v4 v3 m_4) (fun r_5 m_5 => rc v1 (v2 + r_5) v3 (v4 + (1 : Int32)) m_5))) else B_X10_matchSum_83 N rc v1 v3 v4 v2 m_3)))
def L_X10_matchSum_41 (N : Nat) : Nat → Int32 → Int32 → Int32 → Int32 → Mem → Option (Int32 × Int32 × Int32 × Mem)
  | 0 => fun _ _ _ _ _ => none
  | n + 1 => T_X10_matchSum_41 N (L_X10_matchSum_41 N n)
def T_X10_matchSum_21 (N : Nat) (rc : Int32 → Int32 → Int32 → Mem → Option (Int32 × Mem)) (v1 : Int32) (v2 : Int32) (v3 : Int32) (m : Mem) : Option (Int32 × Mem) :=
  (if (gI m 96 2) ≤ v3 then some ((v2, m)) else (if (gI m 95 0) = 0 then l4 (L_X10_matchSum_41 N N v1 v2 v3 (0 : Int32) m) (fun v1_9 v2_9 v3_9 m_9 => rc v1_9 v2_9 (v3_9 + (1 : Int32)) m_9) else some ((v2, m))))
def L_X10_matchSum_21 (N : Nat) : Nat → Int32 → Int32 → Int32 → Mem → Option (Int32 × Mem)
  | 0 => fun _ _ _ _ => none
  | n + 1 => T_X10_matchSum_21 N (L_X10_matchSum_21 N n)
def B_X10_matchSum_14 (N : Nat) (v1 : Int32) (s0 : Int32) (m : Mem) : Option (Int32 × Mem) :=
  wr (sI m 95 0 s0) (fun m_2 => l2 (L_X10_matchSum_21 N N v1 (0 : Int32) (0 : Int32) m_2) (fun v2_12 m_12 => some (v2_12, m_12)))
def f_X10_matchSum (N : Nat) (v1 : Int32) (m : Mem) : Option (Int32 × Mem) :=
  b2 (f_X10_isPanel N v1 m) (fun r_1 m_1 => (if r_1 = 0 then B_X10_matchSum_14 N v1 (1 : Int32) m_1 else B_X10_matchSum_14 N v1 (0 : Int32) m_1))
def T_X10_takenOf_4 (N : Nat) (rc : Int32 → Int32 → Int32 → Mem → Option (Int32 × Mem)) (v1 : Int32) (v2 : Int32) (v3 : Int32) (m : Mem) : Option (Int32 × Mem) :=
  (if (gI m 96 1) ≤ v3 then some ((v2, m)) else gd (inb v3 12) (b2 (f_X10_has N (gI m 101 v3.toNatClampNeg) v1 m) (fun r_2 m_2 => (if r_2 = 0 then rc v1 (v2 + (0 : Int32)) (v3 + (1 : Int32)) m_2 else rc v1 (v2 + (1 : Int32)) (v3 + (1 : Int32)) m_2))))
def L_X10_takenOf_4 (N : Nat) : Nat → Int32 → Int32 → Int32 → Mem → Option (Int32 × Mem)
  | 0 => fun _ _ _ _ => none
  | n + 1 => T_X10_takenOf_4 N (L_X10_takenOf_4 N n)
def f_X10_takenOf (N : Nat) (v1 : Int32) (m : Mem) : Option (Int32 × Mem) :=
  l2 (L_X10_takenOf_4 N N v1 (0 : Int32) (0 : Int32) m) (fun v2_5 m_5 => some (v2_5, m_5))
def f_X10_reaches (N : Nat) (v1 : Int32) (v2 : Int32) (v3 : Int32) (m : Mem) : Option (Int32 × Mem) :=
  gd (inb v1 28) ((if (gI m 102 v1.toNatClampNeg) < v2 then wr (sI m 102 v1.toNatClampNeg v2) (fun m_2 => wr (sI m_2 103 v1.toNatClampNeg v3) (fun m_3 => some ((1 : Int32), m_3))) else some ((0 : Int32), m)))
def B_X10_reachesMore_161 (N : Nat) (rc : Int32 → Int32 → Int32 → Int32 → Mem → Option (Int32 × Int32 × Int32 × Mem)) (v1 : Int32) (v3 : Int32) (v4 : Int32) (s0 : Int32) (s1 : Int32) (m : Mem) : Option (Int32 × Int32 × Int32 × Mem) :=
  rc v1 (s1 ||| s0) v3 (v4 + (1 : Int32)) m
def B_X10_reachesMore_160 (N : Nat) (rc : Int32 → Int32 → Int32 → Int32 → Mem → Option (Int32 × Int32 × Int32 × Mem)) (v1 : Int32) (v3 : Int32) (v4 : Int32) (s0 : Int32) (m : Mem) : Option (Int32 × Int32 × Int32 × Mem) :=
  B_X10_reachesMore_161 N rc v1 v3 v4 (0 : Int32) s0 m
def B_X10_reachesMore_115 (N : Nat) (rc : Int32 → Int32 → Int32 → Int32 → Mem → Option (Int32 × Int32 × Int32 × Mem)) (v1 : Int32) (v3 : Int32) (v4 : Int32) (s0 : Int32) (s1 : Int32) (m : Mem) : Option (Int32 × Int32 × Int32 × Mem) :=
  rc v1 (s1 ||| s0) v3 (v4 + (1 : Int32)) m
def B_X10_reachesMore_114 (N : Nat) (rc : Int32 → Int32 → Int32 → Int32 → Mem → Option (Int32 × Int32 × Int32 × Mem)) (v1 : Int32) (v3 : Int32) (v4 : Int32) (s0 : Int32) (m : Mem) : Option (Int32 × Int32 × Int32 × Mem) :=
  B_X10_reachesMore_115 N rc v1 v3 v4 (0 : Int32) s0 m
def T_X10_reachesMore_17 (N : Nat) (rc : Int32 → Int32 → Int32 → Int32 → Mem → Option (Int32 × Int32 × Int32 × Mem)) (v1 : Int32) (v2 : Int32) (v3 : Int32) (v4 : Int32) (m : Mem) : Option (Int32 × Int32 × Int32 × Mem) :=
  (if (gI m 96 1) ≤ v4 then some ((v1, v2, v3, m)) else b2 (f_X10_proposal N v3 (0 : Int32) m) (fun r_1 m_1 => (if r_1 = v1 then b2 (f_X10_fits N v4 v3 m_1) (fun r_2 m_2 => (if r_2 = 0 then rc v1 v2 v3 (v4 + (1 : Int32)) m_2 else gd (inb v4 12) (b2 (f_X10_has N (gI m_2 101 v4.toNatClampNeg) v3 m_2) (fun r_4 m_4 => (if r_4 = 0 then gd (inb v3 28) ((if (gI m_4 102 v3.toNatClampNeg) ≤ (-1000000 : Int32) then B_X10_reachesMore_160 N rc v1 v3 v4 v2 m_4 else b2 (f_X10_matches N v4 v3 m_4) (fun r_6 m_6 => b2 (f_X10_reaches N ((16 : Int32) + v4) ((gI m_4 102 v3.toNatClampNeg) + r_6) v3 m_6) (fun r_7 m_7 => (if r_7 = 0 then B_X10_reachesMore_160 N rc v1 v3 v4 v2 m_7 else B_X10_reachesMore_161 N rc v1 v3 v4 (1 : Int32) v2 m_7))))) else gd (inb ((16 : Int32) + v4) 28) ((if (gI m_4 102 ((16 : Int32) + v4).toNatClampNeg) ≤ (-1000000 : Int32) then B_X10_reachesMore_114 N rc v1 v3 v4 v2 m_4 else b2 (f_X10_matches N v4 v3 m_4) (fun r_11 m_11 => b2 (f_X10_reaches N v3 ((gI m_4 102 ((16 : Int32) + v4).toNatClampNeg) - r_11) ((16 : Int32) + v4) m_11) (fun r_12 m_12 => (if r_12 = 0 then B_X10_reachesMore_114 N rc v1 v3 v4 v2 m_12 else B_X10_reachesMore_115 N rc v1 v3 v4 (1 : Int32) v2 m_12)))))))))) else some ((v1, v2, v3, m_1)))))
def L_X10_reachesMore_17 (N : Nat) : Nat → Int32 → Int32 → Int32 → Int32 → Mem → Option (Int32 × Int32 × Int32 × Mem)
  | 0 => fun _ _ _ _ _ => none
  | n + 1 => T_X10_reachesMore_17 N (L_X10_reachesMore_17 N n)
def T_X10_reachesMore_4 (N : Nat) (rc : Int32 → Int32 → Int32 → Mem → Option (Int32 × Mem)) (v1 : Int32) (v2 : Int32) (v3 : Int32) (m : Mem) : Option (Int32 × Mem) :=
  (if (gI m 96 2) ≤ v3 then some ((v2, m)) else l4 (L_X10_reachesMore_17 N N v1 v2 v3 (0 : Int32) m) (fun v1_19 v2_19 v3_19 m_19 => rc v1_19 v2_19 (v3_19 + (1 : Int32)) m_19))
def L_X10_reachesMore_4 (N : Nat) : Nat → Int32 → Int32 → Int32 → Mem → Option (Int32 × Mem)
  | 0 => fun _ _ _ _ => none
  | n + 1 => T_X10_reachesMore_4 N (L_X10_reachesMore_4 N n)
def f_X10_reachesMore (N : Nat) (v1 : Int32) (m : Mem) : Option (Int32 × Mem) :=
  l2 (L_X10_reachesMore_4 N N v1 (0 : Int32) (0 : Int32) m) (fun v2_21 m_21 => gd (isB v2_21) (some (v2_21, m_21)))
def T_X10_goesOn_2 (N : Nat) (rc : Int32 → Int32 → Mem → Option (Int32 × Mem)) (v1 : Int32) (v2 : Int32) (m : Mem) : Option (Int32 × Mem) :=
  (if (28 : Int32) ≤ v2 then some ((v1, m)) else gd (inb v2 28) (wr (sI m 102 v2.toNatClampNeg (-1000000 : Int32)) (fun m_2 => wr (sI m_2 103 v2.toNatClampNeg (-1 : Int32)) (fun m_3 => rc v1 (v2 + (1 : Int32)) m_3))))
def L_X10_goesOn_2 (N : Nat) : Nat → Int32 → Int32 → Mem → Option (Int32 × Mem)
  | 0 => fun _ _ _ => none
  | n + 1 => T_X10_goesOn_2 N (L_X10_goesOn_2 N n)
def B_X10_goesOn_76 (N : Nat) (rc : Int32 → Int32 → Mem → Option (Int32 × Mem)) (v1 : Int32) (v2 : Int32) (s0 : Int32) (s1 : Int32) (m : Mem) : Option (Int32 × Mem) :=
  gd (inb s1 28) (wr (sI m 102 s1.toNatClampNeg s0) (fun m_8 => rc v1 (v2 + (1 : Int32)) m_8))
def B_X10_goesOn_74 (N : Nat) (rc : Int32 → Int32 → Mem → Option (Int32 × Mem)) (v1 : Int32) (v2 : Int32) (s0 : Int32) (m : Mem) : Option (Int32 × Mem) :=
  B_X10_goesOn_76 N rc v1 v2 (-1000000 : Int32) s0 m
def T_X10_goesOn_31 (N : Nat) (rc : Int32 → Int32 → Mem → Option (Int32 × Mem)) (v1 : Int32) (v2 : Int32) (m : Mem) : Option (Int32 × Mem) :=
  (if (gI m 96 2) ≤ v2 then some ((v1, m)) else b2 (f_X10_proposal N v2 (0 : Int32) m) (fun r_6 m_6 => (if r_6 = v1 then b2 (f_X10_takenOf N v2 m_6) (fun r_9 m_9 => (if (gI m_9 96 3) ≤ r_9 then B_X10_goesOn_74 N rc v1 v2 v2 m_9 else B_X10_goesOn_76 N rc v1 v2 (0 : Int32) v2 m_9)) else B_X10_goesOn_74 N rc v1 v2 v2 m_6)))
def L_X10_goesOn_31 (N : Nat) : Nat → Int32 → Int32 → Mem → Option (Int32 × Mem)
  | 0 => fun _ _ _ => none
  | n + 1 => T_X10_goesOn_31 N (L_X10_goesOn_31 N n)
def T_X10_goesOn_85 (N : Nat) (rc : Int32 → Int32 → Mem → Option (Mem)) (v1 : Int32) (v2 : Int32) (m : Mem) : Option (Mem) :=
  (if v2 = 0 then some (m) else b2 (f_X10_reachesMore N v1 m) (fun r_14 m_14 => rc v1 r_14 m_14))
def L_X10_goesOn_85 (N : Nat) : Nat → Int32 → Int32 → Mem → Option (Mem)
  | 0 => fun _ _ _ => none
  | n + 1 => T_X10_goesOn_85 N (L_X10_goesOn_85 N n)
def B_X10_goesOn_193 (N : Nat) (rc : Int32 → Int32 → Mem → Option (Int32 × Mem)) (v3 : Int32) (v4 : Int32) (m : Mem) : Option (Int32 × Mem) :=
  rc v3 (v4 + (1 : Int32)) m
def B_X10_goesOn_188 (N : Nat) (rc : Int32 → Int32 → Mem → Option (Int32 × Mem)) (v4 : Int32) (m : Mem) : Option (Int32 × Mem) :=
  rc v4 (v4 + (1 : Int32)) m
def B_X10_goesOn_154 (N : Nat) (rc : Int32 → Int32 → Mem → Option (Int32 × Mem)) (v3 : Int32) (v4 : Int32) (s0 : Int32) (m : Mem) : Option (Int32 × Mem) :=
  (if s0 = 0 then B_X10_goesOn_193 N rc v3 v4 m else (if v3 = (-1 : Int32) then B_X10_goesOn_188 N rc v4 m else gd (inb ((16 : Int32) + v4) 28) (gd (inb ((16 : Int32) + v3) 28) ((if (gI m 102 ((16 : Int32) + v4).toNatClampNeg) ≤ (gI m 102 ((16 : Int32) + v3).toNatClampNeg) then B_X10_goesOn_193 N rc v3 v4 m else B_X10_goesOn_188 N rc v4 m)))))
def B_X10_goesOn_153 (N : Nat) (rc : Int32 → Int32 → Mem → Option (Int32 × Mem)) (v3 : Int32) (v4 : Int32) (m : Mem) : Option (Int32 × Mem) :=
  B_X10_goesOn_154 N rc v3 v4 (0 : Int32) m
def T_X10_goesOn_103 (N : Nat) (rc : Int32 → Int32 → Mem → Option (Int32 × Mem)) (v3 : Int32) (v4 : Int32) (m : Mem) : Option (Int32 × Mem) :=
  (if (gI m 96 1) ≤ v4 then some ((v3, m)) else gd (inb ((16 : Int32) + v4) 28) ((if (gI m 102 ((16 : Int32) + v4).toNatClampNeg) ≤ (-1000000 : Int32) then B_X10_goesOn_153 N rc v3 v4 m else gd (inb v4 12) (b2 (f_X10_bits N (gI m 101 v4.toNatClampNeg) m) (fun r_24 m_24 => b2 (f_X10_reviewer N v4 (2 : Int32) m_24) (fun r_25 m_25 => (if r_25 ≤ r_24 then B_X10_goesOn_153 N rc v3 v4 m_25 else B_X10_goesOn_154 N rc v3 v4 (1 : Int32) m_25)))))))
def L_X10_goesOn_103 (N : Nat) : Nat → Int32 → Int32 → Mem → Option (Int32 × Mem)
  | 0 => fun _ _ _ => none
  | n + 1 => T_X10_goesOn_103 N (L_X10_goesOn_103 N n)
def f_X10_goesOn (N : Nat) (v1 : Int32) (m : Mem) : Option (Int32 × Mem) :=
  l2 (L_X10_goesOn_2 N N v1 (0 : Int32) m) (fun v1_5 m_5 => l2 (L_X10_goesOn_31 N N v1_5 (0 : Int32) m_5) (fun v1_13 m_13 => l1 (L_X10_goesOn_85 N N v1_13 (1 : Int32) m_13) (fun  m_16 => l2 (L_X10_goesOn_103 N N (-1 : Int32) (0 : Int32) m_16) (fun v3_29 m_29 => some (v3_29, m_29)))))
def T_X10_finds_2 (N : Nat) (rc : Int32 → Int32 → Mem → Option (Int32 × Mem)) (v1 : Int32) (v2 : Int32) (m : Mem) : Option (Int32 × Mem) :=
  (if (12 : Int32) ≤ v2 then some ((v1, m)) else gd (inb v2 12) (wr (sI m 101 v2.toNatClampNeg (0 : Int32)) (fun m_2 => rc v1 (v2 + (1 : Int32)) m_2)))
def L_X10_finds_2 (N : Nat) : Nat → Int32 → Int32 → Mem → Option (Int32 × Mem)
  | 0 => fun _ _ _ => none
  | n + 1 => T_X10_finds_2 N (L_X10_finds_2 N n)
def B_X10_finds_127 (N : Nat) (rc : Int32 → Int32 → Mem → Option (Int32 × Mem)) (v1 : Int32) (v4 : Int32) (s0 : Int32) (s1 : Int32) (s2 : Int32) (s3 : Int32) (m : Mem) : Option (Int32 × Mem) :=
  gd (inb s3 12) (wr (sI m 101 s3.toNatClampNeg (s2 ^^^ (s1 <<< (s0 &&& 31)))) (fun m_14 => rc v1 v4 m_14))
def B_X10_finds_109 (N : Nat) (rc : Int32 → Int32 → Mem → Option (Int32 × Mem)) (v1 : Int32) (v3 : Int32) (v4 : Int32) (s0 : Int32) (m : Mem) : Option (Int32 × Mem) :=
  gd (inb (s0 - (16 : Int32)) 12) ((if (16 : Int32) ≤ v3 then B_X10_finds_127 N rc v1 v4 v4 (1 : Int32) (gI m 101 (s0 - (16 : Int32)).toNatClampNeg) (s0 - (16 : Int32)) m else B_X10_finds_127 N rc v1 v4 v3 (1 : Int32) (gI m 101 (s0 - (16 : Int32)).toNatClampNeg) (s0 - (16 : Int32)) m))
def T_X10_finds_75 (N : Nat) (rc : Int32 → Int32 → Mem → Option (Int32 × Mem)) (v1 : Int32) (v3 : Int32) (m : Mem) : Option (Int32 × Mem) :=
  gd (inb v3 28) ((if (gI m 103 v3.toNatClampNeg) = (-1 : Int32) then some ((v1, m)) else (if (16 : Int32) ≤ v3 then B_X10_finds_109 N rc v1 v3 (gI m 103 v3.toNatClampNeg) v3 m else B_X10_finds_109 N rc v1 v3 (gI m 103 v3.toNatClampNeg) (gI m 103 v3.toNatClampNeg) m)))
def L_X10_finds_75 (N : Nat) : Nat → Int32 → Int32 → Mem → Option (Int32 × Mem)
  | 0 => fun _ _ _ => none
  | n + 1 => T_X10_finds_75 N (L_X10_finds_75 N n)
def T_X10_finds_37 (N : Nat) (rc : Int32 → Int32 → Mem → Option (Mem)) (v1 : Int32) (v2 : Int32) (m : Mem) : Option (Mem) :=
  (if v2 = (-1 : Int32) then some (m) else wr (sI m 95 15 ((gI m 95 15) + (1 : Int32))) (fun m_8 => gd (inb ((16 : Int32) + v2) 28) (wr (sI m_8 95 16 ((gI m_8 95 16) + (gI m_8 102 ((16 : Int32) + v2).toNatClampNeg))) (fun m_10 => l2 (L_X10_finds_75 N N v1 ((16 : Int32) + v2) m_10) (fun v1_18 m_18 => b2 (f_X10_goesOn N v1_18 m_18) (fun r_19 m_19 => rc v1_18 r_19 m_19))))))
def L_X10_finds_37 (N : Nat) : Nat → Int32 → Int32 → Mem → Option (Mem)
  | 0 => fun _ _ _ => none
  | n + 1 => T_X10_finds_37 N (L_X10_finds_37 N n)
def f_X10_finds (N : Nat) (v1 : Int32) (m : Mem) : Option (Mem) :=
  l2 (L_X10_finds_2 N N v1 (0 : Int32) m) (fun v1_4 m_4 => wr (sI m_4 95 15 (0 : Int32)) (fun m_5 => wr (sI m_5 95 16 (0 : Int32)) (fun m_6 => b2 (f_X10_goesOn N v1_4 m_6) (fun r_7 m_7 => l1 (L_X10_finds_37 N N v1_4 r_7 m_7) (fun  m_21 => some (m_21))))))
def B_X10_mostReviews_14 (N : Nat) (v1 : Int32) (s0 : Int32) (m : Mem) : Option (Int32 × Mem) :=
  wr (sI m 95 0 s0) (fun m_2 => (if (gI m_2 95 0) ≤ 0 then b1 (f_X10_finds N v1 m_2) (fun m_3 => some (gI m_3 95 15, m_3)) else some ((0 : Int32), m_2)))
def f_X10_mostReviews (N : Nat) (v1 : Int32) (m : Mem) : Option (Int32 × Mem) :=
  b2 (f_X10_isPanel N v1 m) (fun r_1 m_1 => (if r_1 = 0 then B_X10_mostReviews_14 N v1 (1 : Int32) m_1 else B_X10_mostReviews_14 N v1 (0 : Int32) m_1))
def B_X10_bestMatchSum_14 (N : Nat) (v1 : Int32) (s0 : Int32) (m : Mem) : Option (Int32 × Mem) :=
  wr (sI m 95 0 s0) (fun m_2 => (if (gI m_2 95 0) ≤ 0 then b1 (f_X10_finds N v1 m_2) (fun m_3 => some (gI m_3 95 16, m_3)) else some ((0 : Int32), m_2)))
def f_X10_bestMatchSum (N : Nat) (v1 : Int32) (m : Mem) : Option (Int32 × Mem) :=
  b2 (f_X10_isPanel N v1 m) (fun r_1 m_1 => (if r_1 = 0 then B_X10_bestMatchSum_14 N v1 (1 : Int32) m_1 else B_X10_bestMatchSum_14 N v1 (0 : Int32) m_1))
def B_X10_setScore_82 (N : Nat) (v4 : Int32) (s0 : Int32) (s1 : Int32) (m : Mem) : Option (Int32 × Mem) :=
  gd (inb s1 218) (wr (sI m 98 s1.toNatClampNeg s0) (fun m_6 => b2 (f_X10_orNone N v4 m_6) (fun r_7 m_7 => some (r_7, m_7))))
def B_X10_setScore_32 (N : Nat) (v1 : Int32) (v2 : Int32) (v3 : Int32) (m : Mem) : Option (Int32 × Mem) :=
  b2 (f_X10_isReview N v1 v2 m) (fun r_2 m_2 => (if r_2 = 0 then b2 (f_X10_fails N (3 : Int32) m_2) (fun r_9 m_9 => some (r_9, m_9)) else b1 (f_X10_keeps N  m_2) (fun m_3 => b2 (f_X10_score N v1 v2 m_3) (fun r_4 m_4 => (if v3 = (-1 : Int32) then B_X10_setScore_82 N r_4 (0 : Int32) (((26 : Int32) + ((16 : Int32) * v1)) + v2) m_4 else B_X10_setScore_82 N r_4 v3 (((26 : Int32) + ((16 : Int32) * v1)) + v2) m_4)))))
def f_X10_setScore (N : Nat) (v1 : Int32) (v2 : Int32) (v3 : Int32) (m : Mem) : Option (Int32 × Mem) :=
  b2 (f_X10_areBoth N v1 v2 m) (fun r_1 m_1 => (if r_1 = 0 then some ((0 : Int32), m_1) else (if v3 = (-1 : Int32) then B_X10_setScore_32 N v1 v2 v3 m_1 else b2 (f_X10_in N v3 (1 : Int32) (100 : Int32) m_1) (fun r_11 m_11 => (if r_11 = 0 then b2 (f_X10_fails N (2 : Int32) m_11) (fun r_12 m_12 => some (r_12, m_12)) else B_X10_setScore_32 N v1 v2 v3 m_11)))))
def f_X10_down (N : Nat) (v0 : Int64) (v2 : Int64) (m : Mem) : Option (Int32 × Mem) :=
  gd (!(v2 == 0)) ((if 0 ≤ (lg_cmp (v0 - v0 / v2 * v2) (0 : Int64)) then some ((v0 / v2).toInt32, m) else some (((v0 / v2) - (1 : Int64)).toInt32, m)))
def B_X10_adjust_31 (N : Nat) (rc : Int32 → Int32 → Int32 → Int32 → Int32 → Mem → Option (Int32 × Int32 × Int32 × Int32 × Mem)) (v1 : Int32) (v2 : Int32) (v4 : Int32) (v5 : Int32) (s0 : Int32) (s1 : Int32) (m : Mem) : Option (Int32 × Int32 × Int32 × Int32 × Mem) :=
  b2 (f_X10_score N v1 v5 m) (fun r_2 m_2 => rc v1 v2 (s1 + s0) (v4 + r_2) (v5 + (1 : Int32)) m_2)
def T_X10_adjust_8 (N : Nat) (rc : Int32 → Int32 → Int32 → Int32 → Int32 → Mem → Option (Int32 × Int32 × Int32 × Int32 × Mem)) (v1 : Int32) (v2 : Int32) (v3 : Int32) (v4 : Int32) (v5 : Int32) (m : Mem) : Option (Int32 × Int32 × Int32 × Int32 × Mem) :=
  (if (16 : Int32) ≤ v5 then some ((v1, v2, v3, v4, m)) else b2 (f_X10_score N v1 v5 m) (fun r_1 m_1 => (if r_1 ≤ 0 then B_X10_adjust_31 N rc v1 v2 v4 v5 (0 : Int32) v3 m_1 else B_X10_adjust_31 N rc v1 v2 v4 v5 (1 : Int32) v3 m_1)))
def L_X10_adjust_8 (N : Nat) : Nat → Int32 → Int32 → Int32 → Int32 → Int32 → Mem → Option (Int32 × Int32 × Int32 × Int32 × Mem)
  | 0 => fun _ _ _ _ _ _ => none
  | n + 1 => T_X10_adjust_8 N (L_X10_adjust_8 N n)
def B_X10_adjust_90 (N : Nat) (rc : Int32 → Int32 → Int32 → Int32 → Int32 → Int32 → Mem → Option (Int32 × Int32 × Int32 × Int32 × Int32 × Mem)) (v1 : Int32) (v2 : Int32) (v3 : Int32) (v4 : Int32) (v5 : Int32) (v6 : Int32) (s0 : Int32) (m : Mem) : Option (Int32 × Int32 × Int32 × Int32 × Int32 × Mem) :=
  (if 0 ≤ s0 then rc v1 v2 v3 v4 (v5 + s0) (v6 + (1 : Int32)) m else rc v1 v2 v3 v4 (v5 + (-s0)) (v6 + (1 : Int32)) m)
def T_X10_adjust_57 (N : Nat) (rc : Int32 → Int32 → Int32 → Int32 → Int32 → Int32 → Mem → Option (Int32 × Int32 × Int32 × Int32 × Int32 × Mem)) (v1 : Int32) (v2 : Int32) (v3 : Int32) (v4 : Int32) (v5 : Int32) (v6 : Int32) (m : Mem) : Option (Int32 × Int32 × Int32 × Int32 × Int32 × Mem) :=
  (if (16 : Int32) ≤ v6 then some ((v1, v2, v3, v4, v5, m)) else b2 (f_X10_score N v1 v6 m) (fun r_6 m_6 => (if r_6 ≤ 0 then B_X10_adjust_90 N rc v1 v2 v3 v4 v5 v6 (0 : Int32) m_6 else b2 (f_X10_score N v1 v6 m_6) (fun r_8 m_8 => B_X10_adjust_90 N rc v1 v2 v3 v4 v5 v6 ((v3 * r_8) - v4) m_8))))
def L_X10_adjust_57 (N : Nat) : Nat → Int32 → Int32 → Int32 → Int32 → Int32 → Int32 → Mem → Option (Int32 × Int32 × Int32 × Int32 × Int32 × Mem)
  | 0 => fun _ _ _ _ _ _ _ => none
  | n + 1 => T_X10_adjust_57 N (L_X10_adjust_57 N n)
def f_X10_adjust (N : Nat) (v1 : Int32) (v2 : Int32) (m : Mem) : Option (Int32 × Mem) :=
  l5 (L_X10_adjust_8 N N v1 v2 (0 : Int32) (0 : Int32) (0 : Int32) m) (fun v1_5 v2_5 v3_5 v4_5 m_5 => l6 (L_X10_adjust_57 N N v1_5 v2_5 v3_5 v4_5 (0 : Int32) (0 : Int32) m_5) (fun v1_11 v2_11 v3_11 v4_11 v5_11 m_11 => (if v5_11 = 0 then some ((50000 : Int32), m_11) else b2 (f_X10_score N v1_11 v2_11 m_11) (fun r_12 m_12 => b2 (f_X10_down N (((20000 : Int64) * v3_11.toInt64) * (((v3_11 * r_12) - v4_11).toInt64)) v5_11.toInt64 m_12) (fun r_13 m_13 => some ((50000 : Int32) + r_13, m_13))))))
def f_X10_isScored (N : Nat) (v1 : Int32) (v2 : Int32) (m : Mem) : Option (Int32 × Mem) :=
  b2 (f_X10_score N v1 v2 m) (fun r_1 m_1 => (if r_1 ≤ 0 then some ((0 : Int32), m_1) else some ((1 : Int32), m_1)))
def f_X10_adjusted (N : Nat) (v1 : Int32) (v2 : Int32) (m : Mem) : Option (Int32 × Mem) :=
  b2 (f_X10_areBoth N v1 v2 m) (fun r_1 m_1 => (if r_1 = 0 then some ((0 : Int32), m_1) else b2 (f_X10_isScored N v1 v2 m_1) (fun r_2 m_2 => (if r_2 = 0 then b2 (f_X10_fails N (2 : Int32) m_2) (fun r_3 m_3 => some (r_3, m_3)) else b2 (f_X10_adjust N v1 v2 m_2) (fun r_4 m_4 => some (r_4, m_4))))))
def T_X10_scoresOf_4 (N : Nat) (rc : Int32 → Int32 → Int32 → Mem → Option (Int32 × Mem)) (v1 : Int32) (v2 : Int32) (v3 : Int32) (m : Mem) : Option (Int32 × Mem) :=
  (if (gI m 96 1) ≤ v3 then some ((v2, m)) else b2 (f_X10_isScored N v3 v1 m) (fun r_1 m_1 => (if r_1 = 0 then rc v1 (v2 + (0 : Int32)) (v3 + (1 : Int32)) m_1 else rc v1 (v2 + (1 : Int32)) (v3 + (1 : Int32)) m_1)))
def L_X10_scoresOf_4 (N : Nat) : Nat → Int32 → Int32 → Int32 → Mem → Option (Int32 × Mem)
  | 0 => fun _ _ _ _ => none
  | n + 1 => T_X10_scoresOf_4 N (L_X10_scoresOf_4 N n)
def f_X10_scoresOf (N : Nat) (v1 : Int32) (m : Mem) : Option (Int32 × Mem) :=
  l2 (L_X10_scoresOf_4 N N v1 (0 : Int32) (0 : Int32) m) (fun v2_4 m_4 => some (v2_4, m_4))
def T_X10_normal_4 (N : Nat) (rc : Int32 → Int32 → Int32 → Mem → Option (Int32 × Int32 × Mem)) (v1 : Int32) (v2 : Int32) (v3 : Int32) (m : Mem) : Option (Int32 × Int32 × Mem) :=
  (if (gI m 96 1) ≤ v3 then some ((v1, v2, m)) else b2 (f_X10_isScored N v3 v1 m) (fun r_1 m_1 => (if r_1 = 0 then rc v1 (v2 + (0 : Int32)) (v3 + (1 : Int32)) m_1 else b2 (f_X10_adjust N v3 v1 m_1) (fun r_2 m_2 => rc v1 (v2 + r_2) (v3 + (1 : Int32)) m_2))))
def L_X10_normal_4 (N : Nat) : Nat → Int32 → Int32 → Int32 → Mem → Option (Int32 × Int32 × Mem)
  | 0 => fun _ _ _ _ => none
  | n + 1 => T_X10_normal_4 N (L_X10_normal_4 N n)
def f_X10_normal (N : Nat) (v1 : Int32) (m : Mem) : Option (Int32 × Mem) :=
  l3 (L_X10_normal_4 N N v1 (0 : Int32) (0 : Int32) m) (fun v1_5 v2_5 m_5 => b2 (f_X10_scoresOf N v1_5 m_5) (fun r_6 m_6 => b2 (f_X10_down N v2_5.toInt64 r_6.toInt64 m_6) (fun r_7 m_7 => some (r_7, m_7))))
def B_X10_normalized_26 (N : Nat) (v1 : Int32) (s0 : Int32) (m : Mem) : Option (Int32 × Mem) :=
  wr (sI m 95 0 s0) (fun m_3 => (if (gI m_3 95 0) ≤ 0 then b2 (f_X10_normal N v1 m_3) (fun r_4 m_4 => some (r_4, m_4)) else some ((0 : Int32), m_3)))
def f_X10_normalized (N : Nat) (v1 : Int32) (m : Mem) : Option (Int32 × Mem) :=
  b2 (f_X10_isProposal N v1 m) (fun r_1 m_1 => (if r_1 = 0 then B_X10_normalized_26 N v1 (1 : Int32) m_1 else b2 (f_X10_scoresOf N v1 m_1) (fun r_2 m_2 => (if r_2 ≤ 0 then B_X10_normalized_26 N v1 (2 : Int32) m_2 else B_X10_normalized_26 N v1 (0 : Int32) m_2))))
def B_X10_leniency_116 (N : Nat) (rc : Int32 → Int32 → Int32 → Int32 → Int32 → Int32 → Int32 → Mem → Option (Int32 × Int32 × Int32 × Int32 × Int32 × Mem)) (v1 : Int32) (v3 : Int32) (v4 : Int32) (v5 : Int32) (v6 : Int32) (v7 : Int32) (s0 : Int32) (s1 : Int32) (m : Mem) : Option (Int32 × Int32 × Int32 × Int32 × Int32 × Mem) :=
  b2 (f_X10_score N v5 v7 m) (fun r_6 m_6 => b2 (f_X10_isScored N v5 v7 m_6) (fun r_7 m_7 => (if r_7 = 0 then rc v1 (s1 + s0) (v3 + r_6) (v4 + (0 : Int32)) v5 v6 (v7 + (1 : Int32)) m_7 else rc v1 (s1 + s0) (v3 + r_6) (v4 + (1 : Int32)) v5 v6 (v7 + (1 : Int32)) m_7)))
def T_X10_leniency_85 (N : Nat) (rc : Int32 → Int32 → Int32 → Int32 → Int32 → Int32 → Int32 → Mem → Option (Int32 × Int32 × Int32 × Int32 × Int32 × Mem)) (v1 : Int32) (v2 : Int32) (v3 : Int32) (v4 : Int32) (v5 : Int32) (v6 : Int32) (v7 : Int32) (m : Mem) : Option (Int32 × Int32 × Int32 × Int32 × Int32 × Mem) :=
  (if (16 : Int32) ≤ v7 then some ((v1, v2, v3, v4, v5, m)) else (if v6 = 0 then some ((v1, v2, v3, v4, v5, m)) else (if v5 = v1 then b2 (f_X10_score N v5 v7 m) (fun r_9 m_9 => B_X10_leniency_116 N rc v1 v3 v4 v5 v6 v7 r_9 v2 m_9) else B_X10_leniency_116 N rc v1 v3 v4 v5 v6 v7 (0 : Int32) v2 m)))
def L_X10_leniency_85 (N : Nat) : Nat → Int32 → Int32 → Int32 → Int32 → Int32 → Int32 → Int32 → Mem → Option (Int32 × Int32 × Int32 × Int32 × Int32 × Mem)
  | 0 => fun _ _ _ _ _ _ _ _ => none
  | n + 1 => T_X10_leniency_85 N (L_X10_leniency_85 N n)
def B_X10_leniency_80 (N : Nat) (rc : Int32 → Int32 → Int32 → Int32 → Int32 → Mem → Option (Int32 × Int32 × Int32 × Int32 × Mem)) (v1 : Int32) (v2 : Int32) (v3 : Int32) (v4 : Int32) (v5 : Int32) (s0 : Int32) (m : Mem) : Option (Int32 × Int32 × Int32 × Int32 × Mem) :=
  l6 (L_X10_leniency_85 N N v1 v2 v3 v4 v5 s0 (0 : Int32) m) (fun v1_13 v2_13 v3_13 v4_13 v5_13 m_13 => rc v1_13 v2_13 v3_13 v4_13 (v5_13 + (1 : Int32)) m_13)
def T_X10_leniency_48 (N : Nat) (rc : Int32 → Int32 → Int32 → Int32 → Int32 → Mem → Option (Int32 × Int32 × Int32 × Int32 × Mem)) (v1 : Int32) (v2 : Int32) (v3 : Int32) (v4 : Int32) (v5 : Int32) (m : Mem) : Option (Int32 × Int32 × Int32 × Int32 × Mem) :=
  (if (gI m 96 1) ≤ v5 then some ((v1, v2, v3, v4, m)) else b2 (f_X10_reviewer N v5 (0 : Int32) m) (fun r_4 m_4 => b2 (f_X10_reviewer N v1 (0 : Int32) m_4) (fun r_5 m_5 => (if r_4 = r_5 then B_X10_leniency_80 N rc v1 v2 v3 v4 v5 (1 : Int32) m_5 else B_X10_leniency_80 N rc v1 v2 v3 v4 v5 (0 : Int32) m_5))))
def L_X10_leniency_48 (N : Nat) : Nat → Int32 → Int32 → Int32 → Int32 → Int32 → Mem → Option (Int32 × Int32 × Int32 × Int32 × Mem)
  | 0 => fun _ _ _ _ _ _ => none
  | n + 1 => T_X10_leniency_48 N (L_X10_leniency_48 N n)
def B_X10_leniency_26 (N : Nat) (v1 : Int32) (s0 : Int32) (m : Mem) : Option (UInt64 × Mem) :=
  wr (sI m 95 0 s0) (fun m_3 => (if (gI m_3 95 0) ≤ 0 then l5 (L_X10_leniency_48 N N v1 (0 : Int32) (0 : Int32) (0 : Int32) (0 : Int32) m_3) (fun v1_16 v2_16 v3_16 v4_16 m_16 => b2 (f_X10_scoredOf N v1_16 m_16) (fun r_17 m_17 => gd (okN (FP.ddiv (FP.i2d v2_16) (FP.i2d r_17))) (gd (okN (FP.ddiv (FP.i2d v3_16) (FP.i2d v4_16))) (gd (okN (FP.dsub (FP.ddiv (FP.i2d v2_16) (FP.i2d r_17)) (FP.ddiv (FP.i2d v3_16) (FP.i2d v4_16)))) (some (FP.dsub (FP.ddiv (FP.i2d v2_16) (FP.i2d r_17)) (FP.ddiv (FP.i2d v3_16) (FP.i2d v4_16)), m_17)))))) else some (FP.dconst0, m_3)))
def f_X10_leniency (N : Nat) (v1 : Int32) (m : Mem) : Option (UInt64 × Mem) :=
  b2 (f_X10_isReviewer N v1 m) (fun r_1 m_1 => (if r_1 = 0 then B_X10_leniency_26 N v1 (1 : Int32) m_1 else b2 (f_X10_scoredOf N v1 m_1) (fun r_2 m_2 => (if r_2 ≤ 0 then B_X10_leniency_26 N v1 (2 : Int32) m_2 else B_X10_leniency_26 N v1 (0 : Int32) m_2))))
def B_X10_disagreement_118 (N : Nat) (rc : Int32 → Int32 → Int32 → Int32 → Int32 → Mem → Option (Int32 × Int32 × Int32 × Int32 × Mem)) (v1 : Int32) (v3 : Int32) (v4 : Int32) (v5 : Int32) (s0 : Int32) (s1 : Int32) (m : Mem) : Option (Int32 × Int32 × Int32 × Int32 × Mem) :=
  rc v1 (s1 + s0) (v3 + (1 : Int32)) v4 (v5 + (1 : Int32)) m
def T_X10_disagreement_60 (N : Nat) (rc : Int32 → Int32 → Int32 → Int32 → Int32 → Mem → Option (Int32 × Int32 × Int32 × Int32 × Mem)) (v1 : Int32) (v2 : Int32) (v3 : Int32) (v4 : Int32) (v5 : Int32) (m : Mem) : Option (Int32 × Int32 × Int32 × Int32 × Mem) :=
  (if v4 ≤ v5 then some ((v1, v2, v3, v4, m)) else b2 (f_X10_isScored N v4 v1 m) (fun r_4 m_4 => (if r_4 = 0 then rc v1 v2 v3 v4 (v5 + (1 : Int32)) m_4 else b2 (f_X10_isScored N v5 v1 m_4) (fun r_5 m_5 => (if r_5 = 0 then rc v1 v2 v3 v4 (v5 + (1 : Int32)) m_5 else b2 (f_X10_score N v4 v1 m_5) (fun r_6 m_6 => b2 (f_X10_score N v5 v1 m_6) (fun r_7 m_7 => (if 0 ≤ (r_6 - r_7) then B_X10_disagreement_118 N rc v1 v3 v4 v5 (r_6 - r_7) v2 m_7 else B_X10_disagreement_118 N rc v1 v3 v4 v5 (-(r_6 - r_7)) v2 m_7))))))))
def L_X10_disagreement_60 (N : Nat) : Nat → Int32 → Int32 → Int32 → Int32 → Int32 → Mem → Option (Int32 × Int32 × Int32 × Int32 × Mem)
  | 0 => fun _ _ _ _ _ _ => none
  | n + 1 => T_X10_disagreement_60 N (L_X10_disagreement_60 N n)
def T_X10_disagreement_46 (N : Nat) (rc : Int32 → Int32 → Int32 → Int32 → Mem → Option (Int32 × Int32 × Mem)) (v1 : Int32) (v2 : Int32) (v3 : Int32) (v4 : Int32) (m : Mem) : Option (Int32 × Int32 × Mem) :=
  (if (gI m 96 1) ≤ v4 then some ((v2, v3, m)) else l5 (L_X10_disagreement_60 N N v1 v2 v3 v4 (0 : Int32) m) (fun v1_12 v2_12 v3_12 v4_12 m_12 => rc v1_12 v2_12 v3_12 (v4_12 + (1 : Int32)) m_12))
def L_X10_disagreement_46 (N : Nat) : Nat → Int32 → Int32 → Int32 → Int32 → Mem → Option (Int32 × Int32 × Mem)
  | 0 => fun _ _ _ _ _ => none
  | n + 1 => T_X10_disagreement_46 N (L_X10_disagreement_46 N n)
def B_X10_disagreement_27 (N : Nat) (v1 : Int32) (s0 : Int32) (m : Mem) : Option (UInt64 × Mem) :=
  wr (sI m 95 0 s0) (fun m_3 => (if (gI m_3 95 0) ≤ 0 then l3 (L_X10_disagreement_46 N N v1 (0 : Int32) (0 : Int32) (0 : Int32) m_3) (fun v2_14 v3_14 m_14 => gd (okN (FP.ddiv (FP.i2d v2_14) (FP.i2d v3_14))) (some (FP.ddiv (FP.i2d v2_14) (FP.i2d v3_14), m_14))) else some (FP.dconst0, m_3)))
def f_X10_disagreement (N : Nat) (v1 : Int32) (m : Mem) : Option (UInt64 × Mem) :=
  b2 (f_X10_isProposal N v1 m) (fun r_1 m_1 => (if r_1 = 0 then B_X10_disagreement_27 N v1 (1 : Int32) m_1 else b2 (f_X10_scoresOf N v1 m_1) (fun r_2 m_2 => (if r_2 ≤ (1 : Int32) then B_X10_disagreement_27 N v1 (2 : Int32) m_2 else B_X10_disagreement_27 N v1 (0 : Int32) m_2))))
def B_X10_leastOf_43 (N : Nat) (rc : Int32 → Int32 → Int32 → Mem → Option (Int32 × Mem)) (v1 : Int32) (v2 : Int32) (v3 : Int32) (m : Mem) : Option (Int32 × Mem) :=
  rc v1 v2 (v3 + (1 : Int32)) m
def T_X10_leastOf_5 (N : Nat) (rc : Int32 → Int32 → Int32 → Mem → Option (Int32 × Mem)) (v1 : Int32) (v2 : Int32) (v3 : Int32) (m : Mem) : Option (Int32 × Mem) :=
  (if (gI m 96 1) ≤ v3 then some ((v2, m)) else b2 (f_X10_isScored N v3 v1 m) (fun r_1 m_1 => (if r_1 = 0 then B_X10_leastOf_43 N rc v1 v2 v3 m_1 else b2 (f_X10_score N v3 v1 m_1) (fun r_2 m_2 => (if v2 ≤ r_2 then B_X10_leastOf_43 N rc v1 v2 v3 m_2 else b2 (f_X10_score N v3 v1 m_2) (fun r_3 m_3 => rc v1 r_3 (v3 + (1 : Int32)) m_3))))))
def L_X10_leastOf_5 (N : Nat) : Nat → Int32 → Int32 → Int32 → Mem → Option (Int32 × Mem)
  | 0 => fun _ _ _ _ => none
  | n + 1 => T_X10_leastOf_5 N (L_X10_leastOf_5 N n)
def f_X10_leastOf (N : Nat) (v1 : Int32) (m : Mem) : Option (Int32 × Mem) :=
  l2 (L_X10_leastOf_5 N N v1 (101 : Int32) (0 : Int32) m) (fun v2_7 m_7 => some (v2_7, m_7))
def T_X10_highOf_4 (N : Nat) (rc : Int32 → Int32 → Int32 → Mem → Option (Int32 × Mem)) (v1 : Int32) (v2 : Int32) (v3 : Int32) (m : Mem) : Option (Int32 × Mem) :=
  (if (gI m 96 1) ≤ v3 then some ((v2, m)) else b2 (f_X10_score N v3 v1 m) (fun r_1 m_1 => (if r_1 < (80 : Int32) then rc v1 (v2 + (0 : Int32)) (v3 + (1 : Int32)) m_1 else rc v1 (v2 + (1 : Int32)) (v3 + (1 : Int32)) m_1)))
def L_X10_highOf_4 (N : Nat) : Nat → Int32 → Int32 → Int32 → Mem → Option (Int32 × Mem)
  | 0 => fun _ _ _ _ => none
  | n + 1 => T_X10_highOf_4 N (L_X10_highOf_4 N n)
def f_X10_highOf (N : Nat) (v1 : Int32) (m : Mem) : Option (Int32 × Mem) :=
  l2 (L_X10_highOf_4 N N v1 (0 : Int32) (0 : Int32) m) (fun v2_4 m_4 => some (v2_4, m_4))
def f_X10_ahead (N : Nat) (v1 : Int32) (v2 : Int32) (v3 : Int32) (m : Mem) : Option (Int32 × Mem) :=
  (if v3 = (0 : Int32) then b2 (f_X10_normal N v1 m) (fun r_1 m_1 => b2 (f_X10_normal N v2 m_1) (fun r_2 m_2 => some (r_1 - r_2, m_2))) else if v3 = (1 : Int32) then b2 (f_X10_leastOf N v1 m) (fun r_4 m_4 => b2 (f_X10_leastOf N v2 m_4) (fun r_5 m_5 => some (r_4 - r_5, m_5))) else if v3 = (2 : Int32) then b2 (f_X10_highOf N v1 m) (fun r_7 m_7 => b2 (f_X10_highOf N v2 m_7) (fun r_8 m_8 => some (r_7 - r_8, m_8))) else if v3 = (3 : Int32) then b2 (f_X10_proposal N v2 (3 : Int32) m) (fun r_10 m_10 => b2 (f_X10_proposal N v1 (3 : Int32) m_10) (fun r_11 m_11 => some (r_10 - r_11, m_11))) else some (v2 - v1, m))
def T_X10_roundOf_2 (N : Nat) (rc : Int32 → Int32 → Int32 → Mem → Option (Int32 × Mem)) (v1 : Int32) (v2 : Int32) (v3 : Int32) (m : Mem) : Option (Int32 × Mem) :=
  b2 (f_X10_ahead N v1 v2 v3 m) (fun r_1 m_1 => (if r_1 = 0 then rc v1 v2 (v3 + (1 : Int32)) m_1 else some ((v3, m_1))))
def L_X10_roundOf_2 (N : Nat) : Nat → Int32 → Int32 → Int32 → Mem → Option (Int32 × Mem)
  | 0 => fun _ _ _ _ => none
  | n + 1 => T_X10_roundOf_2 N (L_X10_roundOf_2 N n)
def f_X10_roundOf (N : Nat) (v1 : Int32) (v2 : Int32) (m : Mem) : Option (Int32 × Mem) :=
  l2 (L_X10_roundOf_2 N N v1 v2 (0 : Int32) m) (fun v3_3 m_3 => some (v3_3, m_3))
def f_X10_isRanked (N : Nat) (v1 : Int32) (m : Mem) : Option (Int32 × Mem) :=
  b2 (f_X10_scoresOf N v1 m) (fun r_1 m_1 => (if r_1 ≤ 0 then some ((0 : Int32), m_1) else some ((1 : Int32), m_1)))
def B_X10_rankIn_81 (N : Nat) (rc : Int32 → Int32 → Int32 → Int32 → Mem → Option (Int32 × Mem)) (v1 : Int32) (v2 : Int32) (v4 : Int32) (s0 : Int32) (m : Mem) : Option (Int32 × Mem) :=
  rc v1 v2 (s0 + (0 : Int32)) (v4 + (1 : Int32)) m
def B_X10_rankIn_52 (N : Nat) (rc : Int32 → Int32 → Int32 → Int32 → Mem → Option (Int32 × Mem)) (v1 : Int32) (v2 : Int32) (v3 : Int32) (v4 : Int32) (s0 : Int32) (m : Mem) : Option (Int32 × Mem) :=
  (if s0 = 0 then B_X10_rankIn_81 N rc v1 v2 v4 v3 m else b2 (f_X10_roundOf N v4 v2 m) (fun r_1 m_1 => b2 (f_X10_ahead N v4 v2 r_1 m_1) (fun r_2 m_2 => (if r_2 ≤ 0 then B_X10_rankIn_81 N rc v1 v2 v4 v3 m_2 else rc v1 v2 (v3 + (1 : Int32)) (v4 + (1 : Int32)) m_2))))
def B_X10_rankIn_51 (N : Nat) (rc : Int32 → Int32 → Int32 → Int32 → Mem → Option (Int32 × Mem)) (v1 : Int32) (v2 : Int32) (v3 : Int32) (v4 : Int32) (m : Mem) : Option (Int32 × Mem) :=
  B_X10_rankIn_52 N rc v1 v2 v3 v4 (0 : Int32) m
def B_X10_rankIn_47 (N : Nat) (rc : Int32 → Int32 → Int32 → Int32 → Mem → Option (Int32 × Mem)) (v1 : Int32) (v2 : Int32) (v3 : Int32) (v4 : Int32) (m : Mem) : Option (Int32 × Mem) :=
  B_X10_rankIn_52 N rc v1 v2 v3 v4 (1 : Int32) m
def T_X10_rankIn_5 (N : Nat) (rc : Int32 → Int32 → Int32 → Int32 → Mem → Option (Int32 × Mem)) (v1 : Int32) (v2 : Int32) (v3 : Int32) (v4 : Int32) (m : Mem) : Option (Int32 × Mem) :=
  (if (gI m 96 2) ≤ v4 then some ((v3, m)) else (if v4 = v2 then B_X10_rankIn_51 N rc v1 v2 v3 v4 m else b2 (f_X10_isRanked N v4 m) (fun r_5 m_5 => (if r_5 = 0 then B_X10_rankIn_51 N rc v1 v2 v3 v4 m_5 else (if v1 = (-1 : Int32) then B_X10_rankIn_47 N rc v1 v2 v3 v4 m_5 else b2 (f_X10_proposal N v4 (0 : Int32) m_5) (fun r_6 m_6 => (if r_6 = v1 then B_X10_rankIn_47 N rc v1 v2 v3 v4 m_6 else B_X10_rankIn_51 N rc v1 v2 v3 v4 m_6)))))))
def L_X10_rankIn_5 (N : Nat) : Nat → Int32 → Int32 → Int32 → Int32 → Mem → Option (Int32 × Mem)
  | 0 => fun _ _ _ _ _ => none
  | n + 1 => T_X10_rankIn_5 N (L_X10_rankIn_5 N n)
def f_X10_rankIn (N : Nat) (v1 : Int32) (v2 : Int32) (m : Mem) : Option (Int32 × Mem) :=
  l2 (L_X10_rankIn_5 N N v1 v2 (0 : Int32) (0 : Int32) m) (fun v3_12 m_12 => some (v3_12, m_12))
def B_X10_rank_26 (N : Nat) (v1 : Int32) (s0 : Int32) (m : Mem) : Option (Int32 × Mem) :=
  wr (sI m 95 0 s0) (fun m_3 => (if (gI m_3 95 0) ≤ 0 then b2 (f_X10_proposal N v1 (0 : Int32) m_3) (fun r_4 m_4 => b2 (f_X10_rankIn N r_4 v1 m_4) (fun r_5 m_5 => some (r_5, m_5))) else some ((0 : Int32), m_3)))
def f_X10_rank (N : Nat) (v1 : Int32) (m : Mem) : Option (Int32 × Mem) :=
  b2 (f_X10_isProposal N v1 m) (fun r_1 m_1 => (if r_1 = 0 then B_X10_rank_26 N v1 (1 : Int32) m_1 else b2 (f_X10_isRanked N v1 m_1) (fun r_2 m_2 => (if r_2 = 0 then B_X10_rank_26 N v1 (2 : Int32) m_2 else B_X10_rank_26 N v1 (0 : Int32) m_2))))
def B_X10_rankedIn_40 (N : Nat) (rc : Int32 → Int32 → Int32 → Mem → Option ((Mem) ⊕ (Int32 × Mem))) (v1 : Int32) (v2 : Int32) (v3 : Int32) (s0 : Int32) (m : Mem) : Option ((Mem) ⊕ (Int32 × Mem)) :=
  (if s0 = 0 then rc v1 v2 (v3 + (1 : Int32)) m else b2 (f_X10_rankIn N v1 v3 m) (fun r_2 m_2 => (if r_2 = v2 then some (.inr ((v3, m_2))) else rc v1 v2 (v3 + (1 : Int32)) m_2)))
def B_X10_rankedIn_39 (N : Nat) (rc : Int32 → Int32 → Int32 → Mem → Option ((Mem) ⊕ (Int32 × Mem))) (v1 : Int32) (v2 : Int32) (v3 : Int32) (m : Mem) : Option ((Mem) ⊕ (Int32 × Mem)) :=
  B_X10_rankedIn_40 N rc v1 v2 v3 (0 : Int32) m
def B_X10_rankedIn_35 (N : Nat) (rc : Int32 → Int32 → Int32 → Mem → Option ((Mem) ⊕ (Int32 × Mem))) (v1 : Int32) (v2 : Int32) (v3 : Int32) (m : Mem) : Option ((Mem) ⊕ (Int32 × Mem)) :=
  B_X10_rankedIn_40 N rc v1 v2 v3 (1 : Int32) m
def T_X10_rankedIn_2 (N : Nat) (rc : Int32 → Int32 → Int32 → Mem → Option ((Mem) ⊕ (Int32 × Mem))) (v1 : Int32) (v2 : Int32) (v3 : Int32) (m : Mem) : Option ((Mem) ⊕ (Int32 × Mem)) :=
  (if (gI m 96 2) ≤ v3 then some (.inl (m)) else b2 (f_X10_isRanked N v3 m) (fun r_1 m_1 => (if r_1 = 0 then B_X10_rankedIn_39 N rc v1 v2 v3 m_1 else (if v1 = (-1 : Int32) then B_X10_rankedIn_35 N rc v1 v2 v3 m_1 else b2 (f_X10_proposal N v3 (0 : Int32) m_1) (fun r_5 m_5 => (if r_5 = v1 then B_X10_rankedIn_35 N rc v1 v2 v3 m_5 else B_X10_rankedIn_39 N rc v1 v2 v3 m_5))))))
def L_X10_rankedIn_2 (N : Nat) : Nat → Int32 → Int32 → Int32 → Mem → Option ((Mem) ⊕ (Int32 × Mem))
  | 0 => fun _ _ _ _ => none
  | n + 1 => T_X10_rankedIn_2 N (L_X10_rankedIn_2 N n)
def f_X10_rankedIn (N : Nat) (v1 : Int32) (v2 : Int32) (m : Mem) : Option (Int32 × Mem) :=
  (L_X10_rankedIn_2 N N v1 v2 (0 : Int32) m).bind (fun x9 => match x9 with | .inl (m_10) => some ((-1 : Int32), m_10) | .inr ((v3_10, m_10)) => some (v3_10, m_10))
def B_X10_ranked_39 (N : Nat) (s0 : Int32) (m : Mem) : Option (Int32 × Mem) :=
  (if s0 = (-1 : Int32) then b2 (f_X10_fails N (1 : Int32) m) (fun r_3 m_3 => some (r_3, m_3)) else some (s0, m))
def B_X10_ranked_19 (N : Nat) (v1 : Int32) (v2 : Int32) (s0 : Int32) (m : Mem) : Option (Int32 × Mem) :=
  wr (sI m 95 0 s0) (fun m_1 => (if (gI m_1 95 0) ≤ 0 then b2 (f_X10_rankedIn N v1 v2 m_1) (fun r_2 m_2 => B_X10_ranked_39 N r_2 m_2) else B_X10_ranked_39 N (0 : Int32) m_1))
def B_X10_ranked_18 (N : Nat) (v1 : Int32) (v2 : Int32) (m : Mem) : Option (Int32 × Mem) :=
  B_X10_ranked_19 N v1 v2 (0 : Int32) m
def f_X10_ranked (N : Nat) (v1 : Int32) (v2 : Int32) (m : Mem) : Option (Int32 × Mem) :=
  (if v1 = (-1 : Int32) then B_X10_ranked_18 N v1 v2 m else b2 (f_X10_isPanel N v1 m) (fun r_6 m_6 => (if r_6 = 0 then B_X10_ranked_19 N v1 v2 (1 : Int32) m_6 else B_X10_ranked_18 N v1 v2 m_6)))
def B_X10_tieRound_51 (N : Nat) (v1 : Int32) (v2 : Int32) (s0 : Int32) (m : Mem) : Option (Int32 × Mem) :=
  wr (sI m 95 0 s0) (fun m_2 => (if (gI m_2 95 0) ≤ 0 then b2 (f_X10_roundOf N v1 v2 m_2) (fun r_3 m_3 => some (r_3, m_3)) else some ((0 : Int32), m_2)))
def B_X10_tieRound_17 (N : Nat) (v1 : Int32) (v2 : Int32) (m : Mem) : Option (Int32 × Mem) :=
  B_X10_tieRound_51 N v1 v2 (1 : Int32) m
def B_X10_tieRound_50 (N : Nat) (v1 : Int32) (v2 : Int32) (m : Mem) : Option (Int32 × Mem) :=
  B_X10_tieRound_51 N v1 v2 (3 : Int32) m
def f_X10_tieRound (N : Nat) (v1 : Int32) (v2 : Int32) (m : Mem) : Option (Int32 × Mem) :=
  b2 (f_X10_isProposal N v1 m) (fun r_1 m_1 => (if r_1 = 0 then B_X10_tieRound_17 N v1 v2 m_1 else b2 (f_X10_isProposal N v2 m_1) (fun r_5 m_5 => (if r_5 = 0 then B_X10_tieRound_17 N v1 v2 m_5 else (if v1 = v2 then B_X10_tieRound_51 N v1 v2 (2 : Int32) m_5 else b2 (f_X10_isRanked N v1 m_5) (fun r_6 m_6 => (if r_6 = 0 then B_X10_tieRound_50 N v1 v2 m_6 else b2 (f_X10_isRanked N v2 m_6) (fun r_7 m_7 => (if r_7 = 0 then B_X10_tieRound_50 N v1 v2 m_7 else B_X10_tieRound_51 N v1 v2 (0 : Int32) m_7)))))))))
def B_X10_laysOrder_58 (N : Nat) (rc : Int32 → Mem → Option (Mem)) (v1 : Int32) (s0 : Int32) (s1 : Int32) (m : Mem) : Option (Mem) :=
  wr (sI m 95 19 (s1 + s0)) (fun m_6 => rc (v1 + (1 : Int32)) m_6)
def B_X10_laysOrder_39 (N : Nat) (rc : Int32 → Mem → Option (Mem)) (v1 : Int32) (s0 : Int32) (s1 : Int32) (m : Mem) : Option (Mem) :=
  gd (inb s1 16) (wr (sI m 105 s1.toNatClampNeg s0) (fun m_4 => b2 (f_X10_isRanked N v1 m_4) (fun r_5 m_5 => (if r_5 = 0 then B_X10_laysOrder_58 N rc v1 (0 : Int32) (gI m_4 95 19) m_5 else B_X10_laysOrder_58 N rc v1 (1 : Int32) (gI m_4 95 19) m_5))))
def T_X10_laysOrder_7 (N : Nat) (rc : Int32 → Mem → Option (Mem)) (v1 : Int32) (m : Mem) : Option (Mem) :=
  (if (gI m 96 2) ≤ v1 then some (m) else b2 (f_X10_isRanked N v1 m) (fun r_2 m_2 => (if r_2 = 0 then B_X10_laysOrder_39 N rc v1 (0 : Int32) v1 m_2 else b2 (f_X10_normal N v1 m_2) (fun r_8 m_8 => B_X10_laysOrder_39 N rc v1 r_8 v1 m_8))))
def L_X10_laysOrder_7 (N : Nat) : Nat → Int32 → Mem → Option (Mem)
  | 0 => fun _ _ => none
  | n + 1 => T_X10_laysOrder_7 N (L_X10_laysOrder_7 N n)
def T_X10_laysOrder_70 (N : Nat) (rc : Int32 → Mem → Option (Mem)) (v1 : Int32) (m : Mem) : Option (Mem) :=
  (if (gI m 96 2) ≤ v1 then some (m) else b2 (f_X10_isRanked N v1 m) (fun r_12 m_12 => (if r_12 = 0 then rc (v1 + (1 : Int32)) m_12 else b2 (f_X10_rankIn N (-1 : Int32) v1 m_12) (fun r_13 m_13 => gd (inb r_13 16) (wr (sI m_13 104 r_13.toNatClampNeg v1) (fun m_15 => rc (v1 + (1 : Int32)) m_15))))))
def L_X10_laysOrder_70 (N : Nat) : Nat → Int32 → Mem → Option (Mem)
  | 0 => fun _ _ => none
  | n + 1 => T_X10_laysOrder_70 N (L_X10_laysOrder_70 N n)
def f_X10_laysOrder (N : Nat)  (m : Mem) : Option (Mem) :=
  wr (sI m 95 19 (0 : Int32)) (fun m_1 => l1 (L_X10_laysOrder_7 N N (0 : Int32) m_1) (fun  m_11 => l1 (L_X10_laysOrder_70 N N (0 : Int32) m_11) (fun  m_18 => some (m_18))))
def B_X10_funds_173 (N : Nat) (rc : Int32 → Int32 → Int32 → Int32 → Int32 → Int32 → Mem → Option (Int32 × Int32 × Mem)) (v1 : Int32) (v2 : Int32) (v3 : Int32) (v4 : Int32) (v6 : Int32) (s0 : Int32) (m : Mem) : Option (Int32 × Int32 × Mem) :=
  rc v1 v2 v3 v4 s0 (v6 + (1 : Int32)) m
def B_X10_funds_172 (N : Nat) (rc : Int32 → Int32 → Int32 → Int32 → Int32 → Int32 → Mem → Option (Int32 × Int32 × Mem)) (v1 : Int32) (v2 : Int32) (v3 : Int32) (v4 : Int32) (v6 : Int32) (m : Mem) : Option (Int32 × Int32 × Mem) :=
  B_X10_funds_173 N rc v1 v2 v3 v4 v6 (0 : Int32) m
def B_X10_funds_145 (N : Nat) (rc : Int32 → Int32 → Int32 → Int32 → Int32 → Int32 → Mem → Option (Int32 × Int32 × Mem)) (v1 : Int32) (v2 : Int32) (v3 : Int32) (v4 : Int32) (v6 : Int32) (v7 : Int32) (v8 : Int32) (s0 : Int32) (s1 : Int32) (m : Mem) : Option (Int32 × Int32 × Mem) :=
  gd (inb s1 16) (wr (sI m 106 s1.toNatClampNeg s0) (fun m_7 => gd (inb v7 16) ((if v8 = 0 then (if v1 = (1 : Int32) then B_X10_funds_172 N rc v1 v2 v3 (v4 - (gI m_7 106 v7.toNatClampNeg)) v6 m_7 else B_X10_funds_173 N rc v1 v2 v3 (v4 - (gI m_7 106 v7.toNatClampNeg)) v6 (1 : Int32) m_7) else B_X10_funds_172 N rc v1 v2 v3 (v4 - (gI m_7 106 v7.toNatClampNeg)) v6 m_7))))
def B_X10_funds_111 (N : Nat) (rc : Int32 → Int32 → Int32 → Int32 → Int32 → Int32 → Mem → Option (Int32 × Int32 × Mem)) (v1 : Int32) (v2 : Int32) (v3 : Int32) (v4 : Int32) (v6 : Int32) (v7 : Int32) (v8 : Int32) (s0 : Int32) (m : Mem) : Option (Int32 × Int32 × Mem) :=
  (if v8 = 0 then (if s0 = 0 then B_X10_funds_145 N rc v1 v2 v3 v4 v6 v7 v8 (0 : Int32) v7 m else B_X10_funds_145 N rc v1 v2 v3 v4 v6 v7 v8 v4 v7 m) else b2 (f_X10_proposal N v7 (3 : Int32) m) (fun r_12 m_12 => B_X10_funds_145 N rc v1 v2 v3 v4 v6 v7 v8 r_12 v7 m_12))
def B_X10_funds_110 (N : Nat) (rc : Int32 → Int32 → Int32 → Int32 → Int32 → Int32 → Mem → Option (Int32 × Int32 × Mem)) (v1 : Int32) (v2 : Int32) (v3 : Int32) (v4 : Int32) (v6 : Int32) (v7 : Int32) (v8 : Int32) (m : Mem) : Option (Int32 × Int32 × Mem) :=
  B_X10_funds_111 N rc v1 v2 v3 v4 v6 v7 v8 (0 : Int32) m
def B_X10_funds_82 (N : Nat) (rc : Int32 → Int32 → Int32 → Int32 → Int32 → Int32 → Mem → Option (Int32 × Int32 × Mem)) (v1 : Int32) (v2 : Int32) (v3 : Int32) (v4 : Int32) (v6 : Int32) (v7 : Int32) (s0 : Int32) (m : Mem) : Option (Int32 × Int32 × Mem) :=
  (if s0 = 0 then (if v1 = (2 : Int32) then b2 (f_X10_proposal N v7 (4 : Int32) m) (fun r_14 m_14 => (if v4 < r_14 then B_X10_funds_110 N rc v1 v2 v3 v4 v6 v7 s0 m_14 else B_X10_funds_111 N rc v1 v2 v3 v4 v6 v7 s0 (1 : Int32) m_14)) else B_X10_funds_110 N rc v1 v2 v3 v4 v6 v7 s0 m) else B_X10_funds_110 N rc v1 v2 v3 v4 v6 v7 s0 m)
def T_X10_funds_17 (N : Nat) (rc : Int32 → Int32 → Int32 → Int32 → Int32 → Int32 → Mem → Option (Int32 × Int32 × Mem)) (v1 : Int32) (v2 : Int32) (v3 : Int32) (v4 : Int32) (v5 : Int32) (v6 : Int32) (m : Mem) : Option (Int32 × Int32 × Mem) :=
  (if (gI m 95 19) ≤ v6 then some ((v2, v4, m)) else (if v5 = 0 then gd (inb v6 16) (b2 (f_X10_proposal N (gI m 104 v6.toNatClampNeg) (0 : Int32) m) (fun r_3 m_3 => (if r_3 = v2 then gd (inb (gI m 104 v6.toNatClampNeg) 16) ((if v3 ≤ (gI m_3 105 (gI m 104 v6.toNatClampNeg).toNatClampNeg) then b2 (f_X10_proposal N (gI m 104 v6.toNatClampNeg) (3 : Int32) m_3) (fun r_5 m_5 => (if v4 < r_5 then B_X10_funds_82 N rc v1 v2 v3 v4 v6 (gI m 104 v6.toNatClampNeg) (0 : Int32) m_5 else B_X10_funds_82 N rc v1 v2 v3 v4 v6 (gI m 104 v6.toNatClampNeg) (1 : Int32) m_5)) else rc v1 v2 v3 v4 v5 (v6 + (1 : Int32)) m_3)) else rc v1 v2 v3 v4 v5 (v6 + (1 : Int32)) m_3))) else some ((v2, v4, m))))
def L_X10_funds_17 (N : Nat) : Nat → Int32 → Int32 → Int32 → Int32 → Int32 → Int32 → Mem → Option (Int32 × Int32 × Mem)
  | 0 => fun _ _ _ _ _ _ _ => none
  | n + 1 => T_X10_funds_17 N (L_X10_funds_17 N n)
def B_X10_funds_181 (N : Nat) (v2 : Int32) (v4 : Int32) (m : Mem) : Option (Mem) :=
  gd (inb v2 4) (wr (sI m 107 v2.toNatClampNeg v4) (fun m_25 => some (m_25)))
def f_X10_funds (N : Nat) (v1 : Int32) (v2 : Int32) (v3 : Int32) (m : Mem) : Option (Mem) :=
  gd (inb ((7 : Int32) + v2) 151) (l3 (L_X10_funds_17 N N v1 v2 v3 (gI m 96 ((7 : Int32) + v2).toNatClampNeg) (0 : Int32) (0 : Int32) m) (fun v2_23 v4_23 m_23 => B_X10_funds_181 N v2_23 v4_23 m_23))
def T_X10_fundsAll_2 (N : Nat) (rc : Int32 → Int32 → Int32 → Mem → Option (Int32 × Int32 × Mem)) (v1 : Int32) (v2 : Int32) (v3 : Int32) (m : Mem) : Option (Int32 × Int32 × Mem) :=
  (if (16 : Int32) ≤ v3 then some ((v1, v2, m)) else gd (inb v3 16) (wr (sI m 106 v3.toNatClampNeg (0 : Int32)) (fun m_2 => rc v1 v2 (v3 + (1 : Int32)) m_2)))
def L_X10_fundsAll_2 (N : Nat) : Nat → Int32 → Int32 → Int32 → Mem → Option (Int32 × Int32 × Mem)
  | 0 => fun _ _ _ _ => none
  | n + 1 => T_X10_fundsAll_2 N (L_X10_fundsAll_2 N n)
def T_X10_fundsAll_33 (N : Nat) (rc : Int32 → Int32 → Int32 → Mem → Option (Int32 × Mem)) (v1 : Int32) (v2 : Int32) (v3 : Int32) (m : Mem) : Option (Int32 × Mem) :=
  (if (gI m 96 0) ≤ v3 then some ((v2, m)) else b1 (f_X10_funds N v1 v3 v2 m) (fun m_6 => gd (inb v3 4) (wr (sI m_6 95 22 ((gI m_6 95 22) + (gI m_6 107 v3.toNatClampNeg))) (fun m_8 => rc v1 v2 (v3 + (1 : Int32)) m_8))))
def L_X10_fundsAll_33 (N : Nat) : Nat → Int32 → Int32 → Int32 → Mem → Option (Int32 × Mem)
  | 0 => fun _ _ _ _ => none
  | n + 1 => T_X10_fundsAll_33 N (L_X10_fundsAll_33 N n)
def T_X10_fundsAll_73 (N : Nat) (rc : Int32 → Int32 → Mem → Option (Mem)) (v2 : Int32) (v3 : Int32) (m : Mem) : Option (Mem) :=
  (if (gI m 95 19) ≤ v3 then some (m) else gd (inb v3 16) (gd (inb (gI m 104 v3.toNatClampNeg) 16) ((if (gI m 106 (gI m 104 v3.toNatClampNeg).toNatClampNeg) = 0 then (if (gI m 105 (gI m 104 v3.toNatClampNeg).toNatClampNeg) < v2 then rc v2 (v3 + (1 : Int32)) m else b2 (f_X10_proposal N (gI m 104 v3.toNatClampNeg) (3 : Int32) m) (fun r_13 m_13 => (if (gI m_13 95 22) < r_13 then rc v2 (v3 + (1 : Int32)) m_13 else b2 (f_X10_proposal N (gI m 104 v3.toNatClampNeg) (3 : Int32) m_13) (fun r_14 m_14 => wr (sI m_14 106 (gI m 104 v3.toNatClampNeg).toNatClampNeg r_14) (fun m_15 => wr (sI m_15 95 22 ((gI m_15 95 22) - (gI m_15 106 (gI m 104 v3.toNatClampNeg).toNatClampNeg))) (fun m_16 => rc v2 (v3 + (1 : Int32)) m_16)))))) else rc v2 (v3 + (1 : Int32)) m))))
def L_X10_fundsAll_73 (N : Nat) : Nat → Int32 → Int32 → Mem → Option (Mem)
  | 0 => fun _ _ _ => none
  | n + 1 => T_X10_fundsAll_73 N (L_X10_fundsAll_73 N n)
def f_X10_fundsAll (N : Nat) (v1 : Int32) (v2 : Int32) (m : Mem) : Option (Mem) :=
  l3 (L_X10_fundsAll_2 N N v1 v2 (0 : Int32) m) (fun v1_4 v2_4 m_4 => wr (sI m_4 95 22 (gI m_4 96 5)) (fun m_5 => l2 (L_X10_fundsAll_33 N N v1_4 v2_4 (0 : Int32) m_5) (fun v2_10 m_10 => l1 (L_X10_fundsAll_73 N N v2_10 (0 : Int32) m_10) (fun  m_21 => some (m_21)))))
def T_X10_fundedNow_4 (N : Nat) (rc : Int32 → Int32 → Mem → Option (Int32 × Mem)) (v1 : Int32) (v2 : Int32) (m : Mem) : Option (Int32 × Mem) :=
  (if (16 : Int32) ≤ v2 then some ((v1, m)) else gd (inb v2 16) ((if (gI m 106 v2.toNatClampNeg) ≤ 0 then rc (v1 ||| (0 : Int32)) (v2 + (1 : Int32)) m else rc (v1 ||| ((1 : Int32) <<< (v2 &&& 31))) (v2 + (1 : Int32)) m)))
def L_X10_fundedNow_4 (N : Nat) : Nat → Int32 → Int32 → Mem → Option (Int32 × Mem)
  | 0 => fun _ _ _ => none
  | n + 1 => T_X10_fundedNow_4 N (L_X10_fundedNow_4 N n)
def f_X10_fundedNow (N : Nat)  (m : Mem) : Option (Int32 × Mem) :=
  l2 (L_X10_fundedNow_4 N N (0 : Int32) (0 : Int32) m) (fun v1_4 m_4 => some (v1_4, m_4))
def B_X10_isMode_15 (N : Nat) (s0 : Int32) (m : Mem) : Option (Int32 × Mem) :=
  wr (sI m 95 0 s0) (fun m_2 => (if (gI m_2 95 0) = 0 then some ((1 : Int32), m_2) else some ((0 : Int32), m_2)))
def f_X10_isMode (N : Nat) (v1 : Int32) (m : Mem) : Option (Int32 × Mem) :=
  b2 (f_X10_in N v1 (0 : Int32) (2 : Int32) m) (fun r_1 m_1 => (if r_1 = 0 then B_X10_isMode_15 N (1 : Int32) m_1 else B_X10_isMode_15 N (0 : Int32) m_1))
def f_X10_pays (N : Nat) (v1 : Int32) (m : Mem) : Option (Mem) :=
  b1 (f_X10_laysOrder N  m) (fun m_1 => b1 (f_X10_fundsAll N v1 (gI m_1 98 0) m_1) (fun m_2 => some (m_2)))
def B_X10_setLine_16 (N : Nat) (v1 : Int32) (s0 : Int32) (m : Mem) : Option (Int32 × Mem) :=
  wr (sI m 95 0 s0) (fun m_2 => (if (gI m_2 95 0) ≤ 0 then b1 (f_X10_keeps N  m_2) (fun m_3 => wr (sI m_3 98 0 v1) (fun m_4 => some (gI m_3 98 0, m_4))) else some ((0 : Int32), m_2)))
def f_X10_setLine (N : Nat) (v1 : Int32) (m : Mem) : Option (Int32 × Mem) :=
  b2 (f_X10_in N v1 (0 : Int32) (100000 : Int32) m) (fun r_1 m_1 => (if r_1 = 0 then B_X10_setLine_16 N v1 (1 : Int32) m_1 else B_X10_setLine_16 N v1 (0 : Int32) m_1))
def f_X10_amount (N : Nat) (v1 : Int32) (v2 : Int32) (m : Mem) : Option (Int32 × Mem) :=
  b2 (f_X10_isMode N v1 m) (fun r_1 m_1 => (if r_1 = 0 then some ((0 : Int32), m_1) else b2 (f_X10_isProposal N v2 m_1) (fun r_2 m_2 => (if r_2 = 0 then b2 (f_X10_fails N (2 : Int32) m_2) (fun r_5 m_5 => some (r_5, m_5)) else b1 (f_X10_pays N v1 m_2) (fun m_3 => gd (inb v2 16) (some (gI m_3 106 v2.toNatClampNeg, m_3)))))))
def f_X10_left (N : Nat) (v1 : Int32) (v2 : Int32) (m : Mem) : Option (Int32 × Mem) :=
  b2 (f_X10_isMode N v1 m) (fun r_1 m_1 => (if r_1 = 0 then some ((0 : Int32), m_1) else b2 (f_X10_isPanel N v2 m_1) (fun r_2 m_2 => (if r_2 = 0 then b2 (f_X10_fails N (2 : Int32) m_2) (fun r_5 m_5 => some (r_5, m_5)) else b1 (f_X10_pays N v1 m_2) (fun m_3 => gd (inb v2 4) (some (gI m_3 107 v2.toNatClampNeg, m_3)))))))
def f_X10_poolLeft (N : Nat) (v1 : Int32) (m : Mem) : Option (Int32 × Mem) :=
  b2 (f_X10_isMode N v1 m) (fun r_1 m_1 => (if r_1 = 0 then some ((0 : Int32), m_1) else b1 (f_X10_pays N v1 m_1) (fun m_2 => some (gI m_2 95 22, m_2))))
def f_X10_funded (N : Nat) (v1 : Int32) (m : Mem) : Option (Int32 × Mem) :=
  b2 (f_X10_isMode N v1 m) (fun r_1 m_1 => (if r_1 = 0 then some ((0 : Int32), m_1) else b1 (f_X10_pays N v1 m_1) (fun m_2 => b2 (f_X10_fundedNow N  m_2) (fun r_3 m_3 => some (r_3, m_3)))))
def B_X10_bestSum_201 (N : Nat) (rc : Int32 → Int32 → Int32 → Int32 → Int32 → Int32 → Mem → Option (Int32 × Int32 × Int32 × Int32 × Int32 × Mem)) (v1 : Int32) (v2 : Int32) (v3 : Int32) (v4 : Int32) (v6 : Int32) (s0 : Int32) (m : Mem) : Option (Int32 × Int32 × Int32 × Int32 × Int32 × Mem) :=
  rc v1 v2 v3 v4 (s0 + (0 : Int32)) (v6 + (1 : Int32)) m
def B_X10_bestSum_168 (N : Nat) (rc : Int32 → Int32 → Int32 → Int32 → Int32 → Int32 → Mem → Option (Int32 × Int32 × Int32 × Int32 × Int32 × Mem)) (v1 : Int32) (v2 : Int32) (v3 : Int32) (v5 : Int32) (v6 : Int32) (v7 : Int32) (s0 : Int32) (m : Mem) : Option (Int32 × Int32 × Int32 × Int32 × Int32 × Mem) :=
  b2 (f_X10_has N v3 v6 m) (fun r_9 m_9 => (if r_9 = 0 then B_X10_bestSum_201 N rc v1 v2 v3 s0 v6 v5 m_9 else (if v7 = 0 then B_X10_bestSum_201 N rc v1 v2 v3 s0 v6 v5 m_9 else gd (inb v6 16) (gd (inb (gI m_9 104 v6.toNatClampNeg) 16) (rc v1 v2 v3 s0 (v5 + (gI m_9 105 (gI m_9 104 v6.toNatClampNeg).toNatClampNeg)) (v6 + (1 : Int32)) m_9)))))
def B_X10_bestSum_118 (N : Nat) (rc : Int32 → Int32 → Int32 → Int32 → Int32 → Int32 → Mem → Option (Int32 × Int32 × Int32 × Int32 × Int32 × Mem)) (v1 : Int32) (v2 : Int32) (v3 : Int32) (v4 : Int32) (v5 : Int32) (v6 : Int32) (s0 : Int32) (m : Mem) : Option (Int32 × Int32 × Int32 × Int32 × Int32 × Mem) :=
  b2 (f_X10_has N v3 v6 m) (fun r_7 m_7 => (if r_7 = 0 then B_X10_bestSum_168 N rc v1 v2 v3 v5 v6 s0 v4 m_7 else (if s0 = 0 then gd (inb ((7 : Int32) + v1) 151) (B_X10_bestSum_168 N rc v1 v2 v3 v5 v6 s0 ((gI m_7 96 ((7 : Int32) + v1).toNatClampNeg) + (1 : Int32)) m_7) else gd (inb v6 16) (b2 (f_X10_proposal N (gI m_7 104 v6.toNatClampNeg) (3 : Int32) m_7) (fun r_15 m_15 => B_X10_bestSum_168 N rc v1 v2 v3 v5 v6 s0 (v4 + r_15) m_15)))))
def B_X10_bestSum_117 (N : Nat) (rc : Int32 → Int32 → Int32 → Int32 → Int32 → Int32 → Mem → Option (Int32 × Int32 × Int32 × Int32 × Int32 × Mem)) (v1 : Int32) (v2 : Int32) (v3 : Int32) (v4 : Int32) (v5 : Int32) (v6 : Int32) (m : Mem) : Option (Int32 × Int32 × Int32 × Int32 × Int32 × Mem) :=
  B_X10_bestSum_118 N rc v1 v2 v3 v4 v5 v6 (0 : Int32) m
def T_X10_bestSum_53 (N : Nat) (rc : Int32 → Int32 → Int32 → Int32 → Int32 → Int32 → Mem → Option (Int32 × Int32 × Int32 × Int32 × Int32 × Mem)) (v1 : Int32) (v2 : Int32) (v3 : Int32) (v4 : Int32) (v5 : Int32) (v6 : Int32) (m : Mem) : Option (Int32 × Int32 × Int32 × Int32 × Int32 × Mem) :=
  (if (gI m 95 19) ≤ v6 then some ((v1, v2, v3, v4, v5, m)) else gd (inb ((7 : Int32) + v1) 151) ((if (gI m 96 ((7 : Int32) + v1).toNatClampNeg) < v4 then some ((v1, v2, v3, v4, v5, m)) else gd (inb v6 16) (b2 (f_X10_proposal N (gI m 104 v6.toNatClampNeg) (0 : Int32) m) (fun r_6 m_6 => (if r_6 = v1 then gd (inb (gI m_6 104 v6.toNatClampNeg) 16) ((if (gI m_6 105 (gI m_6 104 v6.toNatClampNeg).toNatClampNeg) < (gI m_6 98 0) then B_X10_bestSum_117 N rc v1 v2 v3 v4 v5 v6 m_6 else B_X10_bestSum_118 N rc v1 v2 v3 v4 v5 v6 (1 : Int32) m_6)) else B_X10_bestSum_117 N rc v1 v2 v3 v4 v5 v6 m_6))))))
def L_X10_bestSum_53 (N : Nat) : Nat → Int32 → Int32 → Int32 → Int32 → Int32 → Int32 → Mem → Option (Int32 × Int32 × Int32 × Int32 × Int32 × Mem)
  | 0 => fun _ _ _ _ _ _ _ => none
  | n + 1 => T_X10_bestSum_53 N (L_X10_bestSum_53 N n)
def B_X10_bestSum_236 (N : Nat) (rc : Int32 → Int32 → Int32 → Mem → Option (Int32 × Mem)) (v1 : Int32) (v2 : Int32) (v3 : Int32) (m : Mem) : Option (Int32 × Mem) :=
  rc v1 v2 (v3 + (1 : Int32)) m
def B_X10_bestSum_211 (N : Nat) (rc : Int32 → Int32 → Int32 → Mem → Option (Int32 × Mem)) (v1 : Int32) (v2 : Int32) (v3 : Int32) (v4 : Int32) (v5 : Int32) (m : Mem) : Option (Int32 × Mem) :=
  gd (inb ((7 : Int32) + v1) 151) ((if (gI m 96 ((7 : Int32) + v1).toNatClampNeg) < v4 then B_X10_bestSum_236 N rc v1 v2 v3 m else (if v5 ≤ v2 then B_X10_bestSum_236 N rc v1 v2 v3 m else rc v1 v5 (v3 + (1 : Int32)) m)))
def T_X10_bestSum_34 (N : Nat) (rc : Int32 → Int32 → Int32 → Mem → Option (Int32 × Mem)) (v1 : Int32) (v2 : Int32) (v3 : Int32) (m : Mem) : Option (Int32 × Mem) :=
  (if ((1 : Int32) <<< ((gI m 95 19) &&& 31)) ≤ v3 then some ((v2, m)) else l6 (L_X10_bestSum_53 N N v1 v2 v3 (0 : Int32) (0 : Int32) (0 : Int32) m) (fun v1_23 v2_23 v3_23 v4_23 v5_23 m_23 => B_X10_bestSum_211 N rc v1_23 v2_23 v3_23 v4_23 v5_23 m_23))
def L_X10_bestSum_34 (N : Nat) : Nat → Int32 → Int32 → Int32 → Mem → Option (Int32 × Mem)
  | 0 => fun _ _ _ _ => none
  | n + 1 => T_X10_bestSum_34 N (L_X10_bestSum_34 N n)
def B_X10_bestSum_14 (N : Nat) (v1 : Int32) (s0 : Int32) (m : Mem) : Option (Int32 × Mem) :=
  wr (sI m 95 0 s0) (fun m_2 => (if (gI m_2 95 0) ≤ 0 then b1 (f_X10_laysOrder N  m_2) (fun m_3 => l2 (L_X10_bestSum_34 N N v1 (0 : Int32) (0 : Int32) m_3) (fun v2_28 m_28 => some (v2_28, m_28))) else some ((0 : Int32), m_2)))
def f_X10_bestSum (N : Nat) (v1 : Int32) (m : Mem) : Option (Int32 × Mem) :=
  b2 (f_X10_isPanel N v1 m) (fun r_1 m_1 => (if r_1 = 0 then B_X10_bestSum_14 N v1 (1 : Int32) m_1 else B_X10_bestSum_14 N v1 (0 : Int32) m_1))
def B_X10_lineFor_121 (N : Nat) (rc : Int32 → Int32 → Int32 → Int32 → Mem → Option (Int32 × Mem)) (v1 : Int32) (v2 : Int32) (v4 : Int32) (s0 : Int32) (m : Mem) : Option (Int32 × Mem) :=
  rc v1 v2 s0 (v4 + (1 : Int32)) m
def B_X10_lineFor_89 (N : Nat) (rc : Int32 → Int32 → Int32 → Int32 → Mem → Option (Int32 × Mem)) (v1 : Int32) (v2 : Int32) (v3 : Int32) (v4 : Int32) (s0 : Int32) (m : Mem) : Option (Int32 × Mem) :=
  (if s0 ≤ v3 then rc v1 v2 v3 (v4 + (1 : Int32)) m else b1 (f_X10_fundsAll N v1 s0 m) (fun m_6 => b2 (f_X10_fundedNow N  m_6) (fun r_7 m_7 => b2 (f_X10_bits N r_7 m_7) (fun r_8 m_8 => (if r_8 < v2 then B_X10_lineFor_121 N rc v1 v2 v4 v3 m_8 else B_X10_lineFor_121 N rc v1 v2 v4 s0 m_8)))))
def T_X10_lineFor_46 (N : Nat) (rc : Int32 → Int32 → Int32 → Int32 → Mem → Option (Int32 × Mem)) (v1 : Int32) (v2 : Int32) (v3 : Int32) (v4 : Int32) (m : Mem) : Option (Int32 × Mem) :=
  (if (gI m 95 19) ≤ v4 then some ((v3, m)) else gd (inb v4 16) (gd (inb (gI m 104 v4.toNatClampNeg) 16) ((if (gI m 105 (gI m 104 v4.toNatClampNeg).toNatClampNeg) ≤ (100000 : Int32) then B_X10_lineFor_89 N rc v1 v2 v3 v4 (gI m 105 (gI m 104 v4.toNatClampNeg).toNatClampNeg) m else B_X10_lineFor_89 N rc v1 v2 v3 v4 (100000 : Int32) m))))
def L_X10_lineFor_46 (N : Nat) : Nat → Int32 → Int32 → Int32 → Int32 → Mem → Option (Int32 × Mem)
  | 0 => fun _ _ _ _ _ => none
  | n + 1 => T_X10_lineFor_46 N (L_X10_lineFor_46 N n)
def B_X10_lineFor_25 (N : Nat) (v1 : Int32) (v2 : Int32) (s0 : Int32) (m : Mem) : Option (Int32 × Mem) :=
  wr (sI m 95 0 s0) (fun m_2 => (if (gI m_2 95 0) ≤ 0 then b1 (f_X10_laysOrder N  m_2) (fun m_3 => l2 (L_X10_lineFor_46 N N v1 v2 (-1 : Int32) (0 : Int32) m_3) (fun v3_13 m_13 => some (v3_13, m_13))) else some ((0 : Int32), m_2)))
def B_X10_lineFor_24 (N : Nat) (v1 : Int32) (v2 : Int32) (m : Mem) : Option (Int32 × Mem) :=
  B_X10_lineFor_25 N v1 v2 (1 : Int32) m
def f_X10_lineFor (N : Nat) (v1 : Int32) (v2 : Int32) (m : Mem) : Option (Int32 × Mem) :=
  b2 (f_X10_in N v1 (0 : Int32) (2 : Int32) m) (fun r_1 m_1 => (if r_1 = 0 then B_X10_lineFor_24 N v1 v2 m_1 else b2 (f_X10_in N v2 (1 : Int32) (16 : Int32) m_1) (fun r_15 m_15 => (if r_15 = 0 then B_X10_lineFor_24 N v1 v2 m_15 else B_X10_lineFor_25 N v1 v2 (0 : Int32) m_15))))
def T_X10_appeal_73 (N : Nat) (rc : Int32 → Int32 → Int32 → Int32 → Int32 → Mem → Option (Int32 × Int32 × Int32 × Int32 × Mem)) (v1 : Int32) (v2 : Int32) (v3 : Int32) (v4 : Int32) (v5 : Int32) (m : Mem) : Option (Int32 × Int32 × Int32 × Int32 × Mem) :=
  (if (gI m 96 1) ≤ v5 then some ((v1, v2, v3, v4, m)) else (if v5 = v1 then rc v1 v2 v3 (v4 + (0 : Int32)) (v5 + (1 : Int32)) m else b2 (f_X10_score N v5 v2 m) (fun r_5 m_5 => rc v1 v2 v3 (v4 + r_5) (v5 + (1 : Int32)) m_5)))
def L_X10_appeal_73 (N : Nat) : Nat → Int32 → Int32 → Int32 → Int32 → Int32 → Mem → Option (Int32 × Int32 × Int32 × Int32 × Mem)
  | 0 => fun _ _ _ _ _ _ => none
  | n + 1 => T_X10_appeal_73 N (L_X10_appeal_73 N n)
def B_X10_appeal_138 (N : Nat) (v1 : Int32) (v2 : Int32) (v3 : Int32) (s0 : Int32) (m : Mem) : Option (Int32 × Mem) :=
  (if (v3 * (gI m 96 6)) < s0 then b1 (f_X10_keeps N  m) (fun m_10 => b1 (f_X10_removes N v1 v2 m_10) (fun m_11 => gd (inb ((2 : Int32) + v1) 218) (wr (sI m_11 98 ((2 : Int32) + v1).toNatClampNeg ((gI m_11 98 ((2 : Int32) + v1).toNatClampNeg) ||| ((1 : Int32) <<< (v2 &&& 31)))) (fun m_13 => wr (sI m_13 98 1 ((gI m_13 98 1) ||| ((1 : Int32) <<< (v2 &&& 31)))) (fun m_14 => some ((1 : Int32), m_14)))))) else some ((0 : Int32), m))
def B_X10_appeal_55 (N : Nat) (v1 : Int32) (v2 : Int32) (v3 : Int32) (s0 : Int32) (m : Mem) : Option (Int32 × Mem) :=
  wr (sI m 95 0 s0) (fun m_4 => (if (gI m_4 95 0) ≤ 0 then l5 (L_X10_appeal_73 N N v1 v2 v3 (0 : Int32) (0 : Int32) m_4) (fun v1_8 v2_8 v3_8 v4_8 m_8 => b2 (f_X10_score N v1_8 v2_8 m_8) (fun r_9 m_9 => (if 0 ≤ ((v3_8 * r_9) - v4_8) then B_X10_appeal_138 N v1_8 v2_8 v3_8 ((v3_8 * r_9) - v4_8) m_9 else B_X10_appeal_138 N v1_8 v2_8 v3_8 (-((v3_8 * r_9) - v4_8)) m_9))) else some ((0 : Int32), m_4)))
def B_X10_appeal_50 (N : Nat) (v1 : Int32) (v2 : Int32) (v3 : Int32) (m : Mem) : Option (Int32 × Mem) :=
  B_X10_appeal_55 N v1 v2 v3 (3 : Int32) m
def f_X10_appeal (N : Nat) (v1 : Int32) (v2 : Int32) (m : Mem) : Option (Int32 × Mem) :=
  b2 (f_X10_areBoth N v1 v2 m) (fun r_1 m_1 => (if r_1 = 0 then some ((0 : Int32), m_1) else b2 (f_X10_scoresOf N v2 m_1) (fun r_2 m_2 => b2 (f_X10_isScored N v1 v2 m_2) (fun r_3 m_3 => (if r_3 = 0 then B_X10_appeal_55 N v1 v2 (r_2 - (1 : Int32)) (2 : Int32) m_3 else (if (r_2 - (1 : Int32)) = 0 then B_X10_appeal_50 N v1 v2 (r_2 - (1 : Int32)) m_3 else b2 (f_X10_has N (gI m_3 98 1) v2 m_3) (fun r_18 m_18 => (if r_18 = 0 then B_X10_appeal_55 N v1 v2 (r_2 - (1 : Int32)) (0 : Int32) m_18 else B_X10_appeal_50 N v1 v2 (r_2 - (1 : Int32)) m_18))))))))
