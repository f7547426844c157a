def B_L_law_548 (N L : Nat) (xs : Nat → Int32) (rc : Int32 → Mem → Option Mem) (v5 : Int32) (s0 : Int64) (s1 : Int64) (m : Mem) : Option Mem :=
  (if (lg_cmp s1 s0) = 0 then rc (v5 + (6 : Int32)) m else none)
def B_L_law_691 (N L : Nat) (xs : Nat → Int32) (rc : Int32 → Mem → Option Mem) (v5 : Int32) (s0 : Int64) (s1 : Int64) (m : Mem) : Option Mem :=
  (if (lg_cmp s1 s0) = 0 then rc (v5 + (6 : Int32)) m else none)
def B_L_law_2228 (N L : Nat) (xs : Nat → Int32) (rc : Int32 → Mem → Option Mem) (v5 : Int32) (s0 : Int64) (s1 : Int64) (m : Mem) : Option Mem :=
  (if (lg_cmp s1 s0) = 0 then rc (v5 + (6 : Int32)) m else none)
def T_L_law (N L : Nat) (xs : Nat → Int32) (rc : Int32 → Mem → Option Mem) (v5 : Int32) (m : Mem) : Option Mem :=
  (if ((Int32.ofNat L) - (6 : Int32)) < v5 then some m else gd (inb v5 L) ((if ((xs v5.toNatClampNeg) &&& (63 : Int32)) = (0 : Int32) then gd (inb (v5 + (1 : Int32)) L) (gd (inb (v5 + (2 : Int32)) L) (gd (inb (v5 + (3 : Int32)) L) (gd (inb (v5 + (4 : Int32)) L) (gd (inb (v5 + (5 : Int32)) L) (b2 (f_L_append N (xs (v5 + (1 : Int32)).toNatClampNeg) (xs (v5 + (2 : Int32)).toNatClampNeg) (xs (v5 + (3 : Int32)).toNatClampNeg) (xs (v5 + (4 : Int32)).toNatClampNeg) (xs (v5 + (5 : Int32)).toNatClampNeg) m) (fun r_7 m_7 => b2 (f_X10_append N (xs (v5 + (1 : Int32)).toNatClampNeg) (xs (v5 + (2 : Int32)).toNatClampNeg) (xs (v5 + (3 : Int32)).toNatClampNeg) (xs (v5 + (4 : Int32)).toNatClampNeg) (xs (v5 + (5 : Int32)).toNatClampNeg) m_7) (fun r_8 m_8 => b2 (f_X10_thrown N  m_8) (fun r_9 m_9 => (if r_9 = r_7 then (if r_7 = 0 then (if (lg_cmp (gJ m_9 108 0) r_8.toInt64) = 0 then rc (v5 + (6 : Int32)) m_9 else none) else rc (v5 + (6 : Int32)) m_9) else none))))))))) else if ((xs v5.toNatClampNeg) &&& (63 : Int32)) = (1 : Int32) then gd (inb (v5 + (1 : Int32)) L) (b2 (f_L_truncate N (xs (v5 + (1 : Int32)).toNatClampNeg) m) (fun r_15 m_15 => b2 (f_X10_truncate N (xs (v5 + (1 : Int32)).toNatClampNeg) m_15) (fun r_16 m_16 => b2 (f_X10_thrown N  m_16) (fun r_17 m_17 => (if r_17 = r_15 then (if r_15 = 0 then (if (lg_cmp (gJ m_17 108 0) r_16.toInt64) = 0 then rc (v5 + (6 : Int32)) m_17 else none) else rc (v5 + (6 : Int32)) m_17) else none))))) else if ((xs v5.toNatClampNeg) &&& (63 : Int32)) = (2 : Int32) then b2 (f_L_load N  m) (fun r_22 m_22 => b2 (f_X10_load N  m_22) (fun r_23 m_23 => b2 (f_X10_thrown N  m_23) (fun r_24 m_24 => (if r_24 = r_22 then (if r_22 = 0 then (if (lg_cmp (gJ m_24 108 0) r_23.toInt64) = 0 then rc (v5 + (6 : Int32)) m_24 else none) else rc (v5 + (6 : Int32)) m_24) else none)))) else if ((xs v5.toNatClampNeg) &&& (63 : Int32)) = (3 : Int32) then b2 (f_X9_errorCode N  m) (fun r_29 m_29 => b2 (f_X10_errorCode N  m_29) (fun r_30 m_30 => (if r_29 = r_30 then rc (v5 + (6 : Int32)) m_30 else none))) else if ((xs v5.toNatClampNeg) &&& (63 : Int32)) = (4 : Int32) then b2 (f_X9_errorPosition N  m) (fun r_33 m_33 => b2 (f_X10_errorPosition N  m_33) (fun r_34 m_34 => (if r_33 = r_34 then rc (v5 + (6 : Int32)) m_34 else none))) else if ((xs v5.toNatClampNeg) &&& (63 : Int32)) = (5 : Int32) then gd (inb (v5 + (1 : Int32)) L) (b2 (f_L_count N (xs (v5 + (1 : Int32)).toNatClampNeg) m) (fun r_38 m_38 => b2 (f_X10_count N (xs (v5 + (1 : Int32)).toNatClampNeg) m_38) (fun r_39 m_39 => b2 (f_X10_thrown N  m_39) (fun r_40 m_40 => (if r_40 = r_38 then (if r_38 = 0 then (if (lg_cmp (gJ m_40 108 0) r_39.toInt64) = 0 then rc (v5 + (6 : Int32)) m_40 else none) else rc (v5 + (6 : Int32)) m_40) else none))))) else if ((xs v5.toNatClampNeg) &&& (63 : Int32)) = (6 : Int32) then gd (inb (v5 + (1 : Int32)) L) (gd (inb (v5 + (2 : Int32)) L) (b2 (f_L_isConflict N (xs (v5 + (1 : Int32)).toNatClampNeg) (xs (v5 + (2 : Int32)).toNatClampNeg) m) (fun r_47 m_47 => b2 (f_X10_isConflict N (xs (v5 + (1 : Int32)).toNatClampNeg) (xs (v5 + (2 : Int32)).toNatClampNeg) m_47) (fun r_48 m_48 => b2 (f_X10_thrown N  m_48) (fun r_49 m_49 => (if r_49 = r_47 then (if r_47 = 0 then (if r_48 = 0 then B_L_law_548 N L xs rc v5 (0 : Int64) (gJ m_49 108 0) m_49 else B_L_law_548 N L xs rc v5 (1 : Int64) (gJ m_49 108 0) m_49) else rc (v5 + (6 : Int32)) m_49) else none)))))) else if ((xs v5.toNatClampNeg) &&& (63 : Int32)) = (7 : Int32) then gd (inb (v5 + (1 : Int32)) L) (gd (inb (v5 + (2 : Int32)) L) (b2 (f_L_match N (xs (v5 + (1 : Int32)).toNatClampNeg) (xs (v5 + (2 : Int32)).toNatClampNeg) m) (fun r_57 m_57 => b2 (f_X10_match N (xs (v5 + (1 : Int32)).toNatClampNeg) (xs (v5 + (2 : Int32)).toNatClampNeg) m_57) (fun r_58 m_58 => b2 (f_X10_thrown N  m_58) (fun r_59 m_59 => (if r_59 = r_57 then (if r_57 = 0 then (if (lg_cmp (gJ m_59 108 0) r_58.toInt64) = 0 then rc (v5 + (6 : Int32)) m_59 else none) else rc (v5 + (6 : Int32)) m_59) else none)))))) else if ((xs v5.toNatClampNeg) &&& (63 : Int32)) = (8 : Int32) then gd (inb (v5 + (1 : Int32)) L) (gd (inb (v5 + (2 : Int32)) L) (b2 (f_L_declare N (xs (v5 + (1 : Int32)).toNatClampNeg) (xs (v5 + (2 : Int32)).toNatClampNeg) m) (fun r_66 m_66 => b2 (f_X10_declare N (xs (v5 + (1 : Int32)).toNatClampNeg) (xs (v5 + (2 : Int32)).toNatClampNeg) m_66) (fun r_67 m_67 => b2 (f_X10_thrown N  m_67) (fun r_68 m_68 => (if r_68 = r_66 then (if r_66 = 0 then (if r_67 = 0 then B_L_law_691 N L xs rc v5 (0 : Int64) (gJ m_68 108 0) m_68 else B_L_law_691 N L xs rc v5 (1 : Int64) (gJ m_68 108 0) m_68) else rc (v5 + (6 : Int32)) m_68) else none)))))) else if ((xs v5.toNatClampNeg) &&& (63 : Int32)) = (9 : Int32) then gd (inb (v5 + (1 : Int32)) L) (gd (inb (v5 + (2 : Int32)) L) (b2 (f_L_assign N (xs (v5 + (1 : Int32)).toNatClampNeg) (xs (v5 + (2 : Int32)).toNatClampNeg) m) (fun r_76 m_76 => b2 (f_X10_assign N (xs (v5 + (1 : Int32)).toNatClampNeg) (xs (v5 + (2 : Int32)).toNatClampNeg) m_76) (fun r_77 m_77 => b2 (f_X10_thrown N  m_77) (fun r_78 m_78 => (if r_78 = r_76 then (if r_76 = 0 then (if (lg_cmp (gJ m_78 108 0) r_77.toInt64) = 0 then rc (v5 + (6 : Int32)) m_78 else none) else rc (v5 + (6 : Int32)) m_78) else none)))))) else if ((xs v5.toNatClampNeg) &&& (63 : Int32)) = (10 : Int32) then gd (inb (v5 + (1 : Int32)) L) (gd (inb (v5 + (2 : Int32)) L) (b2 (f_L_unassign N (xs (v5 + (1 : Int32)).toNatClampNeg) (xs (v5 + (2 : Int32)).toNatClampNeg) m) (fun r_85 m_85 => b2 (f_X10_unassign N (xs (v5 + (1 : Int32)).toNatClampNeg) (xs (v5 + (2 : Int32)).toNatClampNeg) m_85) (fun r_86 m_86 => b2 (f_X10_thrown N  m_86) (fun r_87 m_87 => (if r_87 = r_85 then (if r_85 = 0 then (if (lg_cmp (gJ m_87 108 0) r_86.toInt64) = 0 then rc (v5 + (6 : Int32)) m_87 else none) else rc (v5 + (6 : Int32)) m_87) else none)))))) else if ((xs v5.toNatClampNeg) &&& (63 : Int32)) = (11 : Int32) then gd (inb (v5 + (1 : Int32)) L) (b2 (f_L_assignAll N (xs (v5 + (1 : Int32)).toNatClampNeg) m) (fun r_93 m_93 => b2 (f_X10_assignAll N (xs (v5 + (1 : Int32)).toNatClampNeg) m_93) (fun r_94 m_94 => b2 (f_X10_thrown N  m_94) (fun r_95 m_95 => (if r_95 = r_93 then (if r_93 = 0 then (if (lg_cmp (gJ m_95 108 0) r_94.toInt64) = 0 then rc (v5 + (6 : Int32)) m_95 else none) else rc (v5 + (6 : Int32)) m_95) else none))))) else if ((xs v5.toNatClampNeg) &&& (63 : Int32)) = (12 : Int32) then gd (inb (v5 + (1 : Int32)) L) (gd (inb (v5 + (2 : Int32)) L) (b2 (f_L_reviewerOf N (xs (v5 + (1 : Int32)).toNatClampNeg) (xs (v5 + (2 : Int32)).toNatClampNeg) m) (fun r_102 m_102 => b2 (f_X10_reviewerOf N (xs (v5 + (1 : Int32)).toNatClampNeg) (xs (v5 + (2 : Int32)).toNatClampNeg) m_102) (fun r_103 m_103 => b2 (f_X10_thrown N  m_103) (fun r_104 m_104 => (if r_104 = r_102 then (if r_102 = 0 then (if (lg_cmp (gJ m_104 108 0) r_103.toInt64) = 0 then rc (v5 + (6 : Int32)) m_104 else none) else rc (v5 + (6 : Int32)) m_104) else none)))))) else if ((xs v5.toNatClampNeg) &&& (63 : Int32)) = (13 : Int32) then gd (inb (v5 + (1 : Int32)) L) (b2 (f_L_loadOf N (xs (v5 + (1 : Int32)).toNatClampNeg) m) (fun r_110 m_110 => b2 (f_X10_loadOf N (xs (v5 + (1 : Int32)).toNatClampNeg) m_110) (fun r_111 m_111 => b2 (f_X10_thrown N  m_111) (fun r_112 m_112 => (if r_112 = r_110 then (if r_110 = 0 then (if (lg_cmp (gJ m_112 108 0) r_111.toInt64) = 0 then rc (v5 + (6 : Int32)) m_112 else none) else rc (v5 + (6 : Int32)) m_112) else none))))) else if ((xs v5.toNatClampNeg) &&& (63 : Int32)) = (14 : Int32) then gd (inb (v5 + (1 : Int32)) L) (b2 (f_L_matchSum N (xs (v5 + (1 : Int32)).toNatClampNeg) m) (fun r_118 m_118 => b2 (f_X10_matchSum N (xs (v5 + (1 : Int32)).toNatClampNeg) m_118) (fun r_119 m_119 => b2 (f_X10_thrown N  m_119) (fun r_120 m_120 => (if r_120 = r_118 then (if r_118 = 0 then (if (lg_cmp (gJ m_120 108 0) r_119.toInt64) = 0 then rc (v5 + (6 : Int32)) m_120 else none) else rc (v5 + (6 : Int32)) m_120) else none))))) else if ((xs v5.toNatClampNeg) &&& (63 : Int32)) = (15 : Int32) then gd (inb (v5 + (1 : Int32)) L) (b2 (f_L_mostReviews N (xs (v5 + (1 : Int32)).toNatClampNeg) m) (fun r_126 m_126 => b2 (f_X10_mostReviews N (xs (v5 + (1 : Int32)).toNatClampNeg) m_126) (fun r_127 m_127 => b2 (f_X10_thrown N  m_127) (fun r_128 m_128 => (if r_128 = r_126 then (if r_126 = 0 then (if (lg_cmp (gJ m_128 108 0) r_127.toInt64) = 0 then rc (v5 + (6 : Int32)) m_128 else none) else rc (v5 + (6 : Int32)) m_128) else none))))) else if ((xs v5.toNatClampNeg) &&& (63 : Int32)) = (16 : Int32) then gd (inb (v5 + (1 : Int32)) L) (b2 (f_L_bestMatchSum N (xs (v5 + (1 : Int32)).toNatClampNeg) m) (fun r_134 m_134 => b2 (f_X10_bestMatchSum N (xs (v5 + (1 : Int32)).toNatClampNeg) m_134) (fun r_135 m_135 => b2 (f_X10_thrown N  m_135) (fun r_136 m_136 => (if r_136 = r_134 then (if r_134 = 0 then (if (lg_cmp (gJ m_136 108 0) r_135.toInt64) = 0 then rc (v5 + (6 : Int32)) m_136 else none) else rc (v5 + (6 : Int32)) m_136) else none))))) else if ((xs v5.toNatClampNeg) &&& (63 : Int32)) = (17 : Int32) then gd (inb (v5 + (1 : Int32)) L) (gd (inb (v5 + (2 : Int32)) L) (gd (inb (v5 + (3 : Int32)) L) (b2 (f_L_setScore N (xs (v5 + (1 : Int32)).toNatClampNeg) (xs (v5 + (2 : Int32)).toNatClampNeg) (xs (v5 + (3 : Int32)).toNatClampNeg) m) (fun r_144 m_144 => b2 (f_X10_setScore N (xs (v5 + (1 : Int32)).toNatClampNeg) (xs (v5 + (2 : Int32)).toNatClampNeg) (xs (v5 + (3 : Int32)).toNatClampNeg) m_144) (fun r_145 m_145 => b2 (f_X10_thrown N  m_145) (fun r_146 m_146 => (if r_146 = r_144 then (if r_144 = 0 then (if (lg_cmp (gJ m_146 108 0) r_145.toInt64) = 0 then rc (v5 + (6 : Int32)) m_146 else none) else rc (v5 + (6 : Int32)) m_146) else none))))))) else if ((xs v5.toNatClampNeg) &&& (63 : Int32)) = (18 : Int32) then gd (inb (v5 + (1 : Int32)) L) (gd (inb (v5 + (2 : Int32)) L) (b2 (f_L_adjusted N (xs (v5 + (1 : Int32)).toNatClampNeg) (xs (v5 + (2 : Int32)).toNatClampNeg) m) (fun r_153 m_153 => b2 (f_X10_adjusted N (xs (v5 + (1 : Int32)).toNatClampNeg) (xs (v5 + (2 : Int32)).toNatClampNeg) m_153) (fun r_154 m_154 => b2 (f_X10_thrown N  m_154) (fun r_155 m_155 => (if r_155 = r_153 then (if r_153 = 0 then (if (lg_cmp (gJ m_155 108 0) r_154.toInt64) = 0 then rc (v5 + (6 : Int32)) m_155 else none) else rc (v5 + (6 : Int32)) m_155) else none)))))) else if ((xs v5.toNatClampNeg) &&& (63 : Int32)) = (19 : Int32) then gd (inb (v5 + (1 : Int32)) L) (b2 (f_L_normalized N (xs (v5 + (1 : Int32)).toNatClampNeg) m) (fun r_161 m_161 => b2 (f_X10_normalized N (xs (v5 + (1 : Int32)).toNatClampNeg) m_161) (fun r_162 m_162 => b2 (f_X10_thrown N  m_162) (fun r_163 m_163 => (if r_163 = r_161 then (if r_161 = 0 then (if (lg_cmp (gJ m_163 108 0) r_162.toInt64) = 0 then rc (v5 + (6 : Int32)) m_163 else none) else rc (v5 + (6 : Int32)) m_163) else none))))) else if ((xs v5.toNatClampNeg) &&& (63 : Int32)) = (20 : Int32) then gd (inb (v5 + (1 : Int32)) L) (b2 (f_L_leniency N (xs (v5 + (1 : Int32)).toNatClampNeg) m) (fun r_169 m_169 => b2 (f_X10_leniency N (xs (v5 + (1 : Int32)).toNatClampNeg) m_169) (fun r_170 m_170 => b2 (f_X10_thrown N  m_170) (fun r_171 m_171 => (if r_171 = r_169 then (if r_169 = 0 then (if (Op.cmpValue (FP.dcmp (gD m_171 109 0) r_170) .l) = 0 then rc (v5 + (6 : Int32)) m_171 else (if (Op.cmpValue (FP.dcmp (gD m_171 109 0) (gD m_171 109 0)) .l) = 0 then none else (if (Op.cmpValue (FP.dcmp r_170 r_170) .l) = 0 then none else rc (v5 + (6 : Int32)) m_171))) else rc (v5 + (6 : Int32)) m_171) else none))))) else if ((xs v5.toNatClampNeg) &&& (63 : Int32)) = (21 : Int32) then gd (inb (v5 + (1 : Int32)) L) (b2 (f_L_disagreement N (xs (v5 + (1 : Int32)).toNatClampNeg) m) (fun r_179 m_179 => b2 (f_X10_disagreement N (xs (v5 + (1 : Int32)).toNatClampNeg) m_179) (fun r_180 m_180 => b2 (f_X10_thrown N  m_180) (fun r_181 m_181 => (if r_181 = r_179 then (if r_179 = 0 then (if (Op.cmpValue (FP.dcmp (gD m_181 109 0) r_180) .l) = 0 then rc (v5 + (6 : Int32)) m_181 else (if (Op.cmpValue (FP.dcmp (gD m_181 109 0) (gD m_181 109 0)) .l) = 0 then none else (if (Op.cmpValue (FP.dcmp r_180 r_180) .l) = 0 then none else rc (v5 + (6 : Int32)) m_181))) else rc (v5 + (6 : Int32)) m_181) else none))))) else if ((xs v5.toNatClampNeg) &&& (63 : Int32)) = (22 : Int32) then gd (inb (v5 + (1 : Int32)) L) (b2 (f_L_rank N (xs (v5 + (1 : Int32)).toNatClampNeg) m) (fun r_189 m_189 => b2 (f_X10_rank N (xs (v5 + (1 : Int32)).toNatClampNeg) m_189) (fun r_190 m_190 => b2 (f_X10_thrown N  m_190) (fun r_191 m_191 => (if r_191 = r_189 then (if r_189 = 0 then (if (lg_cmp (gJ m_191 108 0) r_190.toInt64) = 0 then rc (v5 + (6 : Int32)) m_191 else none) else rc (v5 + (6 : Int32)) m_191) else none))))) else if ((xs v5.toNatClampNeg) &&& (63 : Int32)) = (23 : Int32) then gd (inb (v5 + (1 : Int32)) L) (gd (inb (v5 + (2 : Int32)) L) (b2 (f_L_ranked N (xs (v5 + (1 : Int32)).toNatClampNeg) (xs (v5 + (2 : Int32)).toNatClampNeg) m) (fun r_198 m_198 => b2 (f_X10_ranked N (xs (v5 + (1 : Int32)).toNatClampNeg) (xs (v5 + (2 : Int32)).toNatClampNeg) m_198) (fun r_199 m_199 => b2 (f_X10_thrown N  m_199) (fun r_200 m_200 => (if r_200 = r_198 then (if r_198 = 0 then (if (lg_cmp (gJ m_200 108 0) r_199.toInt64) = 0 then rc (v5 + (6 : Int32)) m_200 else none) else rc (v5 + (6 : Int32)) m_200) else none)))))) else if ((xs v5.toNatClampNeg) &&& (63 : Int32)) = (24 : Int32) then gd (inb (v5 + (1 : Int32)) L) (gd (inb (v5 + (2 : Int32)) L) (b2 (f_L_tieRound N (xs (v5 + (1 : Int32)).toNatClampNeg) (xs (v5 + (2 : Int32)).toNatClampNeg) m) (fun r_207 m_207 => b2 (f_X10_tieRound N (xs (v5 + (1 : Int32)).toNatClampNeg) (xs (v5 + (2 : Int32)).toNatClampNeg) m_207) (fun r_208 m_208 => b2 (f_X10_thrown N  m_208) (fun r_209 m_209 => (if r_209 = r_207 then (if r_207 = 0 then (if (lg_cmp (gJ m_209 108 0) r_208.toInt64) = 0 then rc (v5 + (6 : Int32)) m_209 else none) else rc (v5 + (6 : Int32)) m_209) else none)))))) else if ((xs v5.toNatClampNeg) &&& (63 : Int32)) = (25 : Int32) then gd (inb (v5 + (1 : Int32)) L) (b2 (f_L_setLine N (xs (v5 + (1 : Int32)).toNatClampNeg) m) (fun r_215 m_215 => b2 (f_X10_setLine N (xs (v5 + (1 : Int32)).toNatClampNeg) m_215) (fun r_216 m_216 => b2 (f_X10_thrown N  m_216) (fun r_217 m_217 => (if r_217 = r_215 then (if r_215 = 0 then (if (lg_cmp (gJ m_217 108 0) r_216.toInt64) = 0 then rc (v5 + (6 : Int32)) m_217 else none) else rc (v5 + (6 : Int32)) m_217) else none))))) else if ((xs v5.toNatClampNeg) &&& (63 : Int32)) = (26 : Int32) then gd (inb (v5 + (1 : Int32)) L) (gd (inb (v5 + (2 : Int32)) L) (b2 (f_L_amount N (xs (v5 + (1 : Int32)).toNatClampNeg) (xs (v5 + (2 : Int32)).toNatClampNeg) m) (fun r_224 m_224 => b2 (f_X10_amount N (xs (v5 + (1 : Int32)).toNatClampNeg) (xs (v5 + (2 : Int32)).toNatClampNeg) m_224) (fun r_225 m_225 => b2 (f_X10_thrown N  m_225) (fun r_226 m_226 => (if r_226 = r_224 then (if r_224 = 0 then (if (lg_cmp (gJ m_226 108 0) r_225.toInt64) = 0 then rc (v5 + (6 : Int32)) m_226 else none) else rc (v5 + (6 : Int32)) m_226) else none)))))) else if ((xs v5.toNatClampNeg) &&& (63 : Int32)) = (27 : Int32) then gd (inb (v5 + (1 : Int32)) L) (gd (inb (v5 + (2 : Int32)) L) (b2 (f_L_left N (xs (v5 + (1 : Int32)).toNatClampNeg) (xs (v5 + (2 : Int32)).toNatClampNeg) m) (fun r_233 m_233 => b2 (f_X10_left N (xs (v5 + (1 : Int32)).toNatClampNeg) (xs (v5 + (2 : Int32)).toNatClampNeg) m_233) (fun r_234 m_234 => b2 (f_X10_thrown N  m_234) (fun r_235 m_235 => (if r_235 = r_233 then (if r_233 = 0 then (if (lg_cmp (gJ m_235 108 0) r_234.toInt64) = 0 then rc (v5 + (6 : Int32)) m_235 else none) else rc (v5 + (6 : Int32)) m_235) else none)))))) else if ((xs v5.toNatClampNeg) &&& (63 : Int32)) = (28 : Int32) then gd (inb (v5 + (1 : Int32)) L) (b2 (f_L_poolLeft N (xs (v5 + (1 : Int32)).toNatClampNeg) m) (fun r_241 m_241 => b2 (f_X10_poolLeft N (xs (v5 + (1 : Int32)).toNatClampNeg) m_241) (fun r_242 m_242 => b2 (f_X10_thrown N  m_242) (fun r_243 m_243 => (if r_243 = r_241 then (if r_241 = 0 then (if (lg_cmp (gJ m_243 108 0) r_242.toInt64) = 0 then rc (v5 + (6 : Int32)) m_243 else none) else rc (v5 + (6 : Int32)) m_243) else none))))) else if ((xs v5.toNatClampNeg) &&& (63 : Int32)) = (29 : Int32) then gd (inb (v5 + (1 : Int32)) L) (b2 (f_L_funded N (xs (v5 + (1 : Int32)).toNatClampNeg) m) (fun r_249 m_249 => b2 (f_X10_funded N (xs (v5 + (1 : Int32)).toNatClampNeg) m_249) (fun r_250 m_250 => b2 (f_X10_thrown N  m_250) (fun r_251 m_251 => (if r_251 = r_249 then (if r_249 = 0 then (if (lg_cmp (gJ m_251 108 0) r_250.toInt64) = 0 then rc (v5 + (6 : Int32)) m_251 else none) else rc (v5 + (6 : Int32)) m_251) else none))))) else if ((xs v5.toNatClampNeg) &&& (63 : Int32)) = (30 : Int32) then gd (inb (v5 + (1 : Int32)) L) (b2 (f_L_bestSum N (xs (v5 + (1 : Int32)).toNatClampNeg) m) (fun r_257 m_257 => b2 (f_X10_bestSum N (xs (v5 + (1 : Int32)).toNatClampNeg) m_257) (fun r_258 m_258 => b2 (f_X10_thrown N  m_258) (fun r_259 m_259 => (if r_259 = r_257 then (if r_257 = 0 then (if (lg_cmp (gJ m_259 108 0) r_258.toInt64) = 0 then rc (v5 + (6 : Int32)) m_259 else none) else rc (v5 + (6 : Int32)) m_259) else none))))) else if ((xs v5.toNatClampNeg) &&& (63 : Int32)) = (31 : Int32) then gd (inb (v5 + (1 : Int32)) L) (gd (inb (v5 + (2 : Int32)) L) (b2 (f_L_lineFor N (xs (v5 + (1 : Int32)).toNatClampNeg) (xs (v5 + (2 : Int32)).toNatClampNeg) m) (fun r_266 m_266 => b2 (f_X10_lineFor N (xs (v5 + (1 : Int32)).toNatClampNeg) (xs (v5 + (2 : Int32)).toNatClampNeg) m_266) (fun r_267 m_267 => b2 (f_X10_thrown N  m_267) (fun r_268 m_268 => (if r_268 = r_266 then (if r_266 = 0 then (if (lg_cmp (gJ m_268 108 0) r_267.toInt64) = 0 then rc (v5 + (6 : Int32)) m_268 else none) else rc (v5 + (6 : Int32)) m_268) else none)))))) else if ((xs v5.toNatClampNeg) &&& (63 : Int32)) = (32 : Int32) then gd (inb (v5 + (1 : Int32)) L) (gd (inb (v5 + (2 : Int32)) L) (b2 (f_L_appeal N (xs (v5 + (1 : Int32)).toNatClampNeg) (xs (v5 + (2 : Int32)).toNatClampNeg) m) (fun r_275 m_275 => b2 (f_X10_appeal N (xs (v5 + (1 : Int32)).toNatClampNeg) (xs (v5 + (2 : Int32)).toNatClampNeg) m_275) (fun r_276 m_276 => b2 (f_X10_thrown N  m_276) (fun r_277 m_277 => (if r_277 = r_275 then (if r_275 = 0 then (if r_276 = 0 then B_L_law_2228 N L xs rc v5 (0 : Int64) (gJ m_277 108 0) m_277 else B_L_law_2228 N L xs rc v5 (1 : Int64) (gJ m_277 108 0) m_277) else rc (v5 + (6 : Int32)) m_277) else none)))))) else if ((xs v5.toNatClampNeg) &&& (63 : Int32)) = (33 : Int32) then b2 (f_L_undo N  m) (fun r_283 m_283 => b2 (f_X10_undo N  m_283) (fun r_284 m_284 => b2 (f_X10_thrown N  m_284) (fun r_285 m_285 => (if r_285 = r_283 then (if r_283 = 0 then (if (lg_cmp (gJ m_285 108 0) r_284.toInt64) = 0 then rc (v5 + (6 : Int32)) m_285 else none) else rc (v5 + (6 : Int32)) m_285) else none)))) else rc (v5 + (6 : Int32)) m)))
def L_L_law (N L : Nat) (xs : Nat → Int32) : Nat → Int32 → Mem → Option Mem
  | 0 => fun _ _ => none
  | n + 1 => T_L_law N L xs (L_L_law N L xs n)
set_option maxRecDepth 100000 in
set_option maxHeartbeats 4000000 in
theorem t_L_law_548 (N : Nat) (Γ : Gc) (C : Cx Γ cL_law 9 RL (rmK 14 520 600000)) (b L : Nat) (xs : Nat → Int32) (S : HS Γ b L xs) (o : Mem) (rc : Int32 → Mem → Option Mem) (cm cs : Nat) (hcs : cs ≤ cm) (hcm : cm ≤ 600000) (hE : ∀ cs, cs ≤ cm → G Γ 9 cs o 2287 [] []) (hrec : ∀ (v5 : Int32) (m : Mem) (cs : Nat), cs ≤ cm → rc v5 m = some o → G Γ 9 cs m 28 [(0, .ref b), (1, .ref (oa (gw Γ) 0)), (2, .ref (oa (gw Γ) 95)), (3, .ref (oa (gw Γ) 108)), (4, .ref (oa (gw Γ) 109)), (5, .int v5)] []) (v5 : Int32) (s0 : Int64) (s1 : Int64) (m : Mem) (h : B_L_law_548 N L xs rc v5 s0 s1 m = some o) : G Γ 9 cs m 548 [(0, .ref b), (1, .ref (oa (gw Γ) 0)), (2, .ref (oa (gw Γ) 95)), (3, .ref (oa (gw Γ) 108)), (4, .ref (oa (gw Γ) 109)), (5, .int v5)] [.long s0, .long s1] := by
  unfold B_L_law_548 at h
  refine g_lcmp C dL_law_548 ?_
  refine g_if_eq (tgt := 554) C dL_law_549 (by decide) (fun c_50 => ?_) (fun c_50 => ?_)
  · replace h := it_t c_50 h
    refine g_goto (tgt := 2281) C dL_law_554 (by decide) ?_
    refine g_iinc (q := 5) (v := v5 + (6 : Int32)) (lv' := [(5, .int (v5 + (6 : Int32))), (0, .ref b), (1, .ref (oa (gw Γ) 0)), (2, .ref (oa (gw Γ) 95)), (3, .ref (oa (gw Γ) 108)), (4, .ref (oa (gw Γ) 109))]) C dL_law_2281 rfl rfl (by decide) rfl ?_
    refine g_goto (tgt := 28) C dL_law_2284 (by decide) ?_
    refine g_sub [1, 2, 3, 4, 5, 0] rfl ?_
    exact hrec (v5 + (6 : Int32)) m _ (by omega) h
  · replace h := it_f c_50 h
    cases h
set_option maxRecDepth 100000 in
set_option maxHeartbeats 4000000 in
theorem t_L_law_691 (N : Nat) (Γ : Gc) (C : Cx Γ cL_law 9 RL (rmK 14 520 600000)) (b L : Nat) (xs : Nat → Int32) (S : HS Γ b L xs) (o : Mem) (rc : Int32 → Mem → Option Mem) (cm cs : Nat) (hcs : cs ≤ cm) (hcm : cm ≤ 600000) (hE : ∀ cs, cs ≤ cm → G Γ 9 cs o 2287 [] []) (hrec : ∀ (v5 : Int32) (m : Mem) (cs : Nat), cs ≤ cm → rc v5 m = some o → G Γ 9 cs m 28 [(0, .ref b), (1, .ref (oa (gw Γ) 0)), (2, .ref (oa (gw Γ) 95)), (3, .ref (oa (gw Γ) 108)), (4, .ref (oa (gw Γ) 109)), (5, .int v5)] []) (v5 : Int32) (s0 : Int64) (s1 : Int64) (m : Mem) (h : B_L_law_691 N L xs rc v5 s0 s1 m = some o) : G Γ 9 cs m 691 [(0, .ref b), (1, .ref (oa (gw Γ) 0)), (2, .ref (oa (gw Γ) 95)), (3, .ref (oa (gw Γ) 108)), (4, .ref (oa (gw Γ) 109)), (5, .int v5)] [.long s0, .long s1] := by
  unfold B_L_law_691 at h
  refine g_lcmp C dL_law_691 ?_
  refine g_if_eq (tgt := 697) C dL_law_692 (by decide) (fun c_69 => ?_) (fun c_69 => ?_)
  · replace h := it_t c_69 h
    refine g_goto (tgt := 2281) C dL_law_697 (by decide) ?_
    refine g_iinc (q := 5) (v := v5 + (6 : Int32)) (lv' := [(5, .int (v5 + (6 : Int32))), (0, .ref b), (1, .ref (oa (gw Γ) 0)), (2, .ref (oa (gw Γ) 95)), (3, .ref (oa (gw Γ) 108)), (4, .ref (oa (gw Γ) 109))]) C dL_law_2281 rfl rfl (by decide) rfl ?_
    refine g_goto (tgt := 28) C dL_law_2284 (by decide) ?_
    refine g_sub [1, 2, 3, 4, 5, 0] rfl ?_
    exact hrec (v5 + (6 : Int32)) m _ (by omega) h
  · replace h := it_f c_69 h
    cases h
set_option maxRecDepth 100000 in
set_option maxHeartbeats 4000000 in
theorem t_L_law_2228 (N : Nat) (Γ : Gc) (C : Cx Γ cL_law 9 RL (rmK 14 520 600000)) (b L : Nat) (xs : Nat → Int32) (S : HS Γ b L xs) (o : Mem) (rc : Int32 → Mem → Option Mem) (cm cs : Nat) (hcs : cs ≤ cm) (hcm : cm ≤ 600000) (hE : ∀ cs, cs ≤ cm → G Γ 9 cs o 2287 [] []) (hrec : ∀ (v5 : Int32) (m : Mem) (cs : Nat), cs ≤ cm → rc v5 m = some o → G Γ 9 cs m 28 [(0, .ref b), (1, .ref (oa (gw Γ) 0)), (2, .ref (oa (gw Γ) 95)), (3, .ref (oa (gw Γ) 108)), (4, .ref (oa (gw Γ) 109)), (5, .int v5)] []) (v5 : Int32) (s0 : Int64) (s1 : Int64) (m : Mem) (h : B_L_law_2228 N L xs rc v5 s0 s1 m = some o) : G Γ 9 cs m 2228 [(0, .ref b), (1, .ref (oa (gw Γ) 0)), (2, .ref (oa (gw Γ) 95)), (3, .ref (oa (gw Γ) 108)), (4, .ref (oa (gw Γ) 109)), (5, .int v5)] [.long s0, .long s1] := by
  unfold B_L_law_2228 at h
  refine g_lcmp C dL_law_2228 ?_
  refine g_if_eq (tgt := 2234) C dL_law_2229 (by decide) (fun c_278 => ?_) (fun c_278 => ?_)
  · replace h := it_t c_278 h
    refine g_goto (tgt := 2281) C dL_law_2234 (by decide) ?_
    refine g_iinc (q := 5) (v := v5 + (6 : Int32)) (lv' := [(5, .int (v5 + (6 : Int32))), (0, .ref b), (1, .ref (oa (gw Γ) 0)), (2, .ref (oa (gw Γ) 95)), (3, .ref (oa (gw Γ) 108)), (4, .ref (oa (gw Γ) 109))]) C dL_law_2281 rfl rfl (by decide) rfl ?_
    refine g_goto (tgt := 28) C dL_law_2284 (by decide) ?_
    refine g_sub [1, 2, 3, 4, 5, 0] rfl ?_
    exact hrec (v5 + (6 : Int32)) m _ (by omega) h
  · replace h := it_f c_278 h
    cases h
set_option maxRecDepth 100000 in
set_option maxHeartbeats 4000000 in
theorem t_L_law (N : Nat) (Γ : Gc) (C : Cx Γ cL_law 9 RL (rmK 14 520 600000)) (b L : Nat) (xs : Nat → Int32) (S : HS Γ b L xs) (o : Mem) (rc : Int32 → Mem → Option Mem) (cm cs : Nat) (hcs : cs + 8 ≤ cm) (hcm : cm ≤ 600000) (hE : ∀ cs, cs ≤ cm → G Γ 9 cs o 2287 [] []) (hrec : ∀ (v5 : Int32) (m : Mem) (cs : Nat), cs ≤ cm → rc v5 m = some o → G Γ 9 cs m 28 [(0, .ref b), (1, .ref (oa (gw Γ) 0)), (2, .ref (oa (gw Γ) 95)), (3, .ref (oa (gw Γ) 108)), (4, .ref (oa (gw Γ) 109)), (5, .int v5)] []) (v5 : Int32) (m : Mem) (h : T_L_law N L xs rc v5 m = some o) : G Γ 9 cs m 28 [(0, .ref b), (1, .ref (oa (gw Γ) 0)), (2, .ref (oa (gw Γ) 95)), (3, .ref (oa (gw Γ) 108)), (4, .ref (oa (gw Γ) 109)), (5, .int v5)] [] := by
  unfold T_L_law at h
  refine g_iload C dL_law_28 5 rfl ?_
  refine g_aload_n C dL_law_30 0 rfl rfl ?_
  refine g_slen C S dL_law_31 ?_
  refine g_bipush (v := (6 : Int32)) C dL_law_32 (by decide) ?_
  refine g_isub C dL_law_34 ?_
  refine g_icmp_gt (tgt := 2287) C dL_law_35 (by decide) (fun c_290 => ?_) (fun c_290 => ?_)
  · replace h := it_t c_290 h
    obtain rfl := Option.some.inj h
    refine g_sub [] rfl ?_
    exact hE _ (by omega)
  · replace h := it_f c_290 h
    refine g_aload_n C dL_law_38 0 rfl rfl ?_
    refine g_iload C dL_law_39 5 rfl ?_
    obtain ⟨g_1, h⟩ := gd_some h
    refine g_sld C S dL_law_41 g_1 ?_
    refine g_bipush (v := (63 : Int32)) C dL_law_42 (by decide) ?_
    refine g_iand C dL_law_44 ?_
    by_cases c_13 : ((xs v5.toNatClampNeg) &&& (63 : Int32)) = (0 : Int32)
    · replace h := it_t c_13 h
      refine g_tin (tgt := 196) (off := 151) C dL_law_45 (by rw [c_13]; decide) (by rw [c_13]; decide) (by rw [c_13]; rfl) (by decide) ?_
      refine g_aload_n C dL_law_196 1 rfl rfl ?_
      refine g_aload_n C dL_law_197 0 rfl rfl ?_
      refine g_iload C dL_law_198 5 rfl ?_
      refine g_iconst (v := (1 : Int32)) C dL_law_200 (by decide) ?_
      refine g_iadd C dL_law_201 ?_
      obtain ⟨g_2, h⟩ := gd_some h
      refine g_sld C S dL_law_202 g_2 ?_
      refine g_aload_n C dL_law_203 0 rfl rfl ?_
      refine g_iload C dL_law_204 5 rfl ?_
      refine g_iconst (v := (2 : Int32)) C dL_law_206 (by decide) ?_
      refine g_iadd C dL_law_207 ?_
      obtain ⟨g_3, h⟩ := gd_some h
      refine g_sld C S dL_law_208 g_3 ?_
      refine g_aload_n C dL_law_209 0 rfl rfl ?_
      refine g_iload C dL_law_210 5 rfl ?_
      refine g_iconst (v := (3 : Int32)) C dL_law_212 (by decide) ?_
      refine g_iadd C dL_law_213 ?_
      obtain ⟨g_4, h⟩ := gd_some h
      refine g_sld C S dL_law_214 g_4 ?_
      refine g_aload_n C dL_law_215 0 rfl rfl ?_
      refine g_iload C dL_law_216 5 rfl ?_
      refine g_iconst (v := (4 : Int32)) C dL_law_218 (by decide) ?_
      refine g_iadd C dL_law_219 ?_
      obtain ⟨g_5, h⟩ := gd_some h
      refine g_sld C S dL_law_220 g_5 ?_
      refine g_aload_n C dL_law_221 0 rfl rfl ?_
      refine g_iload C dL_law_222 5 rfl ?_
      refine g_iconst (v := (5 : Int32)) C dL_law_224 (by decide) ?_
      refine g_iadd C dL_law_225 ?_
      obtain ⟨g_6, h⟩ := gd_some h
      refine g_sld C S dL_law_226 g_6 ?_
      refine g_aload_n C dL_law_227 3 rfl rfl ?_
      obtain ⟨r_7, m_7, hk_7, h⟩ := b2_some h
      refine g_wI (As := [.ref (oa (gw Γ) 0), .int (xs (v5 + (1 : Int32)).toNatClampNeg), .int (xs (v5 + (2 : Int32)).toNatClampNeg), .int (xs (v5 + (3 : Int32)).toNatClampNeg), .int (xs (v5 + (4 : Int32)).toNatClampNeg), .int (xs (v5 + (5 : Int32)).toNatClampNeg), .ref (oa (gw Γ) 108)]) (mc' := 1) C dL_law_228 mf_L_append k_970 ⟨by decide, by decide⟩ rfl rfl (Nat.le_of_ble_eq_true rfl) (by omega) (c_L_append N (gl Γ) C.2.2.2.2 (gw Γ) (xs (v5 + (1 : Int32)).toNatClampNeg) (xs (v5 + (2 : Int32)).toNatClampNeg) (xs (v5 + (3 : Int32)).toNatClampNeg) (xs (v5 + (4 : Int32)).toNatClampNeg) (xs (v5 + (5 : Int32)).toNatClampNeg) m _ hk_7) ?_
      refine g_istore (lv' := [(6, .int r_7), (0, .ref b), (1, .ref (oa (gw Γ) 0)), (2, .ref (oa (gw Γ) 95)), (3, .ref (oa (gw Γ) 108)), (4, .ref (oa (gw Γ) 109)), (5, .int v5)]) C dL_law_231 (by decide) rfl ?_
      refine g_aload_n C dL_law_233 3 rfl rfl ?_
      refine g_aload_n C dL_law_234 1 rfl rfl ?_
      refine g_iload C dL_law_235 6 rfl ?_
      refine g_iconst (v := (1 : Int32)) C dL_law_237 (by decide) ?_
      refine g_iadd C dL_law_238 ?_
      refine g_sld C S dL_law_239 g_2 ?_
      refine g_aload_n C dL_law_240 1 rfl rfl ?_
      refine g_iload C dL_law_241 6 rfl ?_
      refine g_iconst (v := (2 : Int32)) C dL_law_243 (by decide) ?_
      refine g_iadd C dL_law_244 ?_
      refine g_sld C S dL_law_245 g_3 ?_
      refine g_aload_n C dL_law_246 1 rfl rfl ?_
      refine g_iload C dL_law_247 6 rfl ?_
      refine g_iconst (v := (3 : Int32)) C dL_law_249 (by decide) ?_
      refine g_iadd C dL_law_250 ?_
      refine g_sld C S dL_law_251 g_4 ?_
      refine g_aload_n C dL_law_252 1 rfl rfl ?_
      refine g_iload C dL_law_253 6 rfl ?_
      refine g_iconst (v := (4 : Int32)) C dL_law_255 (by decide) ?_
      refine g_iadd C dL_law_256 ?_
      refine g_sld C S dL_law_257 g_5 ?_
      refine g_aload_n C dL_law_258 1 rfl rfl ?_
      refine g_iload C dL_law_259 6 rfl ?_
      refine g_iconst (v := (5 : Int32)) C dL_law_261 (by decide) ?_
      refine g_iadd C dL_law_262 ?_
      refine g_sld C S dL_law_263 g_6 ?_
      obtain ⟨r_8, m_8, hk_8, h⟩ := b2_some h
      refine g_vI (As := [.int (xs (v5 + (1 : Int32)).toNatClampNeg), .int (xs (v5 + (2 : Int32)).toNatClampNeg), .int (xs (v5 + (3 : Int32)).toNatClampNeg), .int (xs (v5 + (4 : Int32)).toNatClampNeg), .int (xs (v5 + (5 : Int32)).toNatClampNeg)]) (a := 95) (ci := 10) C dL_law_264 mf_X10_append k_971 rfl (by decide) ⟨by decide, by decide⟩ rfl rfl (Nat.le_of_ble_eq_true rfl) (by omega) rfl (c_X10_append N (gl Γ) C.2.2.2.2 (gw Γ) (xs (v5 + (1 : Int32)).toNatClampNeg) (xs (v5 + (2 : Int32)).toNatClampNeg) (xs (v5 + (3 : Int32)).toNatClampNeg) (xs (v5 + (4 : Int32)).toNatClampNeg) (xs (v5 + (5 : Int32)).toNatClampNeg) m_7 _ hk_8) ?_
      refine g_istore (lv' := [(7, .int r_8), (6, .int r_7), (0, .ref b), (1, .ref (oa (gw Γ) 0)), (2, .ref (oa (gw Γ) 95)), (3, .ref (oa (gw Γ) 108)), (4, .ref (oa (gw Γ) 109)), (5, .int v5)]) C dL_law_267 (by decide) rfl ?_
      refine g_aload_n C dL_law_269 4 rfl rfl ?_
      obtain ⟨r_9, m_9, hk_9, h⟩ := b2_some h
      refine g_vI (As := []) (a := 95) (ci := 10) C dL_law_270 mf_X10_thrown k_975 rfl (by decide) ⟨by decide, by decide⟩ rfl rfl (Nat.le_of_ble_eq_true rfl) (by omega) rfl (c_X10_thrown N (gl Γ) C.2.2.2.2 (gw Γ)  m_8 _ hk_9) ?_
      refine g_iload C dL_law_273 1 rfl ?_
      refine g_icmp_eq (tgt := 280) C dL_law_275 (by decide) (fun c_12 => ?_) (fun c_12 => ?_)
      · replace h := it_t c_12 h
        refine g_iload C dL_law_280 1 rfl ?_
        refine g_if_ne (tgt := 297) C dL_law_282 (by decide) (fun c_11 => ?_) (fun c_11 => ?_)
        · replace h := it_f c_11 h
          refine g_goto (tgt := 2281) C dL_law_297 (by decide) ?_
          refine g_iinc (q := 7) (v := v5 + (6 : Int32)) (lv' := [(5, .int (v5 + (6 : Int32))), (7, .int r_8), (6, .int r_7), (0, .ref b), (1, .ref (oa (gw Γ) 0)), (2, .ref (oa (gw Γ) 95)), (3, .ref (oa (gw Γ) 108)), (4, .ref (oa (gw Γ) 109))]) C dL_law_2281 rfl rfl (by decide) rfl ?_
          refine g_goto (tgt := 28) C dL_law_2284 (by decide) ?_
          refine g_sub [3, 4, 5, 6, 7, 0] rfl ?_
          exact hrec (v5 + (6 : Int32)) m_9 _ (by omega) h
        · replace h := it_t c_11 h
          refine g_aload_n C dL_law_285 5 rfl rfl ?_
          refine g_iconst (v := (0 : Int32)) C dL_law_286 (by decide) ?_
          refine g_lald' (j := 0) C dL_law_287 (okA_of rfl rfl (by decide)) (by decide) ?_
          refine g_iload C dL_law_288 0 rfl ?_
          refine g_i2l C dL_law_290 ?_
          refine g_lcmp C dL_law_291 ?_
          refine g_if_eq (tgt := 297) C dL_law_292 (by decide) (fun c_10 => ?_) (fun c_10 => ?_)
          · replace h := it_t c_10 h
            refine g_goto (tgt := 2281) C dL_law_297 (by decide) ?_
            refine g_iinc (q := 7) (v := v5 + (6 : Int32)) (lv' := [(5, .int (v5 + (6 : Int32))), (7, .int r_8), (6, .int r_7), (0, .ref b), (1, .ref (oa (gw Γ) 0)), (2, .ref (oa (gw Γ) 95)), (3, .ref (oa (gw Γ) 108)), (4, .ref (oa (gw Γ) 109))]) C dL_law_2281 rfl rfl (by decide) rfl ?_
            refine g_goto (tgt := 28) C dL_law_2284 (by decide) ?_
            refine g_sub [3, 4, 5, 6, 7, 0] rfl ?_
            exact hrec (v5 + (6 : Int32)) m_9 _ (by omega) h
          · replace h := it_f c_10 h
            cases h
      · replace h := it_f c_12 h
        cases h
    · replace h := it_f c_13 h
      by_cases c_21 : ((xs v5.toNatClampNeg) &&& (63 : Int32)) = (1 : Int32)
      · replace h := it_t c_21 h
        refine g_tin (tgt := 300) (off := 255) C dL_law_45 (by rw [c_21]; decide) (by rw [c_21]; decide) (by rw [c_21]; rfl) (by decide) ?_
        refine g_aload_n C dL_law_300 1 rfl rfl ?_
        refine g_aload_n C dL_law_301 0 rfl rfl ?_
        refine g_iload C dL_law_302 5 rfl ?_
        refine g_iconst (v := (1 : Int32)) C dL_law_304 (by decide) ?_
        refine g_iadd C dL_law_305 ?_
        obtain ⟨g_14, h⟩ := gd_some h
        refine g_sld C S dL_law_306 g_14 ?_
        refine g_aload_n C dL_law_307 3 rfl rfl ?_
        obtain ⟨r_15, m_15, hk_15, h⟩ := b2_some h
        refine g_wI (As := [.ref (oa (gw Γ) 0), .int (xs (v5 + (1 : Int32)).toNatClampNeg), .ref (oa (gw Γ) 108)]) (mc' := 1) C dL_law_308 mf_L_truncate k_979 ⟨by decide, by decide⟩ rfl rfl (Nat.le_of_ble_eq_true rfl) (by omega) (c_L_truncate N (gl Γ) C.2.2.2.2 (gw Γ) (xs (v5 + (1 : Int32)).toNatClampNeg) m _ hk_15) ?_
        refine g_istore (lv' := [(6, .int r_15), (0, .ref b), (1, .ref (oa (gw Γ) 0)), (2, .ref (oa (gw Γ) 95)), (3, .ref (oa (gw Γ) 108)), (4, .ref (oa (gw Γ) 109)), (5, .int v5)]) C dL_law_311 (by decide) rfl ?_
        refine g_aload_n C dL_law_313 3 rfl rfl ?_
        refine g_aload_n C dL_law_314 1 rfl rfl ?_
        refine g_iload C dL_law_315 6 rfl ?_
        refine g_iconst (v := (1 : Int32)) C dL_law_317 (by decide) ?_
        refine g_iadd C dL_law_318 ?_
        refine g_sld C S dL_law_319 g_14 ?_
        obtain ⟨r_16, m_16, hk_16, h⟩ := b2_some h
        refine g_vI (As := [.int (xs (v5 + (1 : Int32)).toNatClampNeg)]) (a := 95) (ci := 10) C dL_law_320 mf_X10_truncate k_980 rfl (by decide) ⟨by decide, by decide⟩ rfl rfl (Nat.le_of_ble_eq_true rfl) (by omega) rfl (c_X10_truncate N (gl Γ) C.2.2.2.2 (gw Γ) (xs (v5 + (1 : Int32)).toNatClampNeg) m_15 _ hk_16) ?_
        refine g_istore (lv' := [(7, .int r_16), (6, .int r_15), (0, .ref b), (1, .ref (oa (gw Γ) 0)), (2, .ref (oa (gw Γ) 95)), (3, .ref (oa (gw Γ) 108)), (4, .ref (oa (gw Γ) 109)), (5, .int v5)]) C dL_law_323 (by decide) rfl ?_
        refine g_aload_n C dL_law_325 4 rfl rfl ?_
        obtain ⟨r_17, m_17, hk_17, h⟩ := b2_some h
        refine g_vI (As := []) (a := 95) (ci := 10) C dL_law_326 mf_X10_thrown k_975 rfl (by decide) ⟨by decide, by decide⟩ rfl rfl (Nat.le_of_ble_eq_true rfl) (by omega) rfl (c_X10_thrown N (gl Γ) C.2.2.2.2 (gw Γ)  m_16 _ hk_17) ?_
        refine g_iload C dL_law_329 1 rfl ?_
        refine g_icmp_eq (tgt := 336) C dL_law_331 (by decide) (fun c_20 => ?_) (fun c_20 => ?_)
        · replace h := it_t c_20 h
          refine g_iload C dL_law_336 1 rfl ?_
          refine g_if_ne (tgt := 353) C dL_law_338 (by decide) (fun c_19 => ?_) (fun c_19 => ?_)
          · replace h := it_f c_19 h
            refine g_goto (tgt := 2281) C dL_law_353 (by decide) ?_
            refine g_iinc (q := 7) (v := v5 + (6 : Int32)) (lv' := [(5, .int (v5 + (6 : Int32))), (7, .int r_16), (6, .int r_15), (0, .ref b), (1, .ref (oa (gw Γ) 0)), (2, .ref (oa (gw Γ) 95)), (3, .ref (oa (gw Γ) 108)), (4, .ref (oa (gw Γ) 109))]) C dL_law_2281 rfl rfl (by decide) rfl ?_
            refine g_goto (tgt := 28) C dL_law_2284 (by decide) ?_
            refine g_sub [3, 4, 5, 6, 7, 0] rfl ?_
            exact hrec (v5 + (6 : Int32)) m_17 _ (by omega) h
          · replace h := it_t c_19 h
            refine g_aload_n C dL_law_341 5 rfl rfl ?_
            refine g_iconst (v := (0 : Int32)) C dL_law_342 (by decide) ?_
            refine g_lald' (j := 0) C dL_law_343 (okA_of rfl rfl (by decide)) (by decide) ?_
            refine g_iload C dL_law_344 0 rfl ?_
            refine g_i2l C dL_law_346 ?_
            refine g_lcmp C dL_law_347 ?_
            refine g_if_eq (tgt := 353) C dL_law_348 (by decide) (fun c_18 => ?_) (fun c_18 => ?_)
            · replace h := it_t c_18 h
              refine g_goto (tgt := 2281) C dL_law_353 (by decide) ?_
              refine g_iinc (q := 7) (v := v5 + (6 : Int32)) (lv' := [(5, .int (v5 + (6 : Int32))), (7, .int r_16), (6, .int r_15), (0, .ref b), (1, .ref (oa (gw Γ) 0)), (2, .ref (oa (gw Γ) 95)), (3, .ref (oa (gw Γ) 108)), (4, .ref (oa (gw Γ) 109))]) C dL_law_2281 rfl rfl (by decide) rfl ?_
              refine g_goto (tgt := 28) C dL_law_2284 (by decide) ?_
              refine g_sub [3, 4, 5, 6, 7, 0] rfl ?_
              exact hrec (v5 + (6 : Int32)) m_17 _ (by omega) h
            · replace h := it_f c_18 h
              cases h
        · replace h := it_f c_20 h
          cases h
      · replace h := it_f c_21 h
        by_cases c_28 : ((xs v5.toNatClampNeg) &&& (63 : Int32)) = (2 : Int32)
        · replace h := it_t c_28 h
          refine g_tin (tgt := 356) (off := 311) C dL_law_45 (by rw [c_28]; decide) (by rw [c_28]; decide) (by rw [c_28]; rfl) (by decide) ?_
          refine g_aload_n C dL_law_356 1 rfl rfl ?_
          refine g_aload_n C dL_law_357 3 rfl rfl ?_
          obtain ⟨r_22, m_22, hk_22, h⟩ := b2_some h
          refine g_wI (As := [.ref (oa (gw Γ) 0), .ref (oa (gw Γ) 108)]) (mc' := 1) C dL_law_358 mf_L_load k_984 ⟨by decide, by decide⟩ rfl rfl (Nat.le_of_ble_eq_true rfl) (by omega) (c_L_load N (gl Γ) C.2.2.2.2 (gw Γ)  m _ hk_22) ?_
          refine g_istore (lv' := [(6, .int r_22), (0, .ref b), (1, .ref (oa (gw Γ) 0)), (2, .ref (oa (gw Γ) 95)), (3, .ref (oa (gw Γ) 108)), (4, .ref (oa (gw Γ) 109)), (5, .int v5)]) C dL_law_361 (by decide) rfl ?_
          refine g_aload_n C dL_law_363 3 rfl rfl ?_
          obtain ⟨r_23, m_23, hk_23, h⟩ := b2_some h
          refine g_vI (As := []) (a := 95) (ci := 10) C dL_law_364 mf_X10_load k_985 rfl (by decide) ⟨by decide, by decide⟩ rfl rfl (Nat.le_of_ble_eq_true rfl) (by omega) rfl (c_X10_load N (gl Γ) C.2.2.2.2 (gw Γ)  m_22 _ hk_23) ?_
          refine g_istore (lv' := [(7, .int r_23), (6, .int r_22), (0, .ref b), (1, .ref (oa (gw Γ) 0)), (2, .ref (oa (gw Γ) 95)), (3, .ref (oa (gw Γ) 108)), (4, .ref (oa (gw Γ) 109)), (5, .int v5)]) C dL_law_367 (by decide) rfl ?_
          refine g_aload_n C dL_law_369 4 rfl rfl ?_
          obtain ⟨r_24, m_24, hk_24, h⟩ := b2_some h
          refine g_vI (As := []) (a := 95) (ci := 10) C dL_law_370 mf_X10_thrown k_975 rfl (by decide) ⟨by decide, by decide⟩ rfl rfl (Nat.le_of_ble_eq_true rfl) (by omega) rfl (c_X10_thrown N (gl Γ) C.2.2.2.2 (gw Γ)  m_23 _ hk_24) ?_
          refine g_iload C dL_law_373 1 rfl ?_
          refine g_icmp_eq (tgt := 380) C dL_law_375 (by decide) (fun c_27 => ?_) (fun c_27 => ?_)
          · replace h := it_t c_27 h
            refine g_iload C dL_law_380 1 rfl ?_
            refine g_if_ne (tgt := 397) C dL_law_382 (by decide) (fun c_26 => ?_) (fun c_26 => ?_)
            · replace h := it_f c_26 h
              refine g_goto (tgt := 2281) C dL_law_397 (by decide) ?_
              refine g_iinc (q := 7) (v := v5 + (6 : Int32)) (lv' := [(5, .int (v5 + (6 : Int32))), (7, .int r_23), (6, .int r_22), (0, .ref b), (1, .ref (oa (gw Γ) 0)), (2, .ref (oa (gw Γ) 95)), (3, .ref (oa (gw Γ) 108)), (4, .ref (oa (gw Γ) 109))]) C dL_law_2281 rfl rfl (by decide) rfl ?_
              refine g_goto (tgt := 28) C dL_law_2284 (by decide) ?_
              refine g_sub [3, 4, 5, 6, 7, 0] rfl ?_
              exact hrec (v5 + (6 : Int32)) m_24 _ (by omega) h
            · replace h := it_t c_26 h
              refine g_aload_n C dL_law_385 5 rfl rfl ?_
              refine g_iconst (v := (0 : Int32)) C dL_law_386 (by decide) ?_
              refine g_lald' (j := 0) C dL_law_387 (okA_of rfl rfl (by decide)) (by decide) ?_
              refine g_iload C dL_law_388 0 rfl ?_
              refine g_i2l C dL_law_390 ?_
              refine g_lcmp C dL_law_391 ?_
              refine g_if_eq (tgt := 397) C dL_law_392 (by decide) (fun c_25 => ?_) (fun c_25 => ?_)
              · replace h := it_t c_25 h
                refine g_goto (tgt := 2281) C dL_law_397 (by decide) ?_
                refine g_iinc (q := 7) (v := v5 + (6 : Int32)) (lv' := [(5, .int (v5 + (6 : Int32))), (7, .int r_23), (6, .int r_22), (0, .ref b), (1, .ref (oa (gw Γ) 0)), (2, .ref (oa (gw Γ) 95)), (3, .ref (oa (gw Γ) 108)), (4, .ref (oa (gw Γ) 109))]) C dL_law_2281 rfl rfl (by decide) rfl ?_
                refine g_goto (tgt := 28) C dL_law_2284 (by decide) ?_
                refine g_sub [3, 4, 5, 6, 7, 0] rfl ?_
                exact hrec (v5 + (6 : Int32)) m_24 _ (by omega) h
              · replace h := it_f c_25 h
                cases h
          · replace h := it_f c_27 h
            cases h
        · replace h := it_f c_28 h
          by_cases c_32 : ((xs v5.toNatClampNeg) &&& (63 : Int32)) = (3 : Int32)
          · replace h := it_t c_32 h
            refine g_tin (tgt := 400) (off := 355) C dL_law_45 (by rw [c_32]; decide) (by rw [c_32]; decide) (by rw [c_32]; rfl) (by decide) ?_
            refine g_aload_n C dL_law_400 1 rfl rfl ?_
            obtain ⟨r_29, m_29, hk_29, h⟩ := b2_some h
            refine g_vI (As := []) (a := 0) (ci := 9) C dL_law_401 mf_X9_errorCode k_989 rfl (by decide) ⟨by decide, by decide⟩ rfl rfl (Nat.le_of_ble_eq_true rfl) (by omega) rfl (c_X9_errorCode N (gl Γ) C.2.2.2.2 (gw Γ)  m _ hk_29) ?_
            refine g_aload_n C dL_law_404 2 rfl rfl ?_
            obtain ⟨r_30, m_30, hk_30, h⟩ := b2_some h
            refine g_vI (As := []) (a := 95) (ci := 10) C dL_law_405 mf_X10_errorCode k_993 rfl (by decide) ⟨by decide, by decide⟩ rfl rfl (Nat.le_of_ble_eq_true rfl) (by omega) rfl (c_X10_errorCode N (gl Γ) C.2.2.2.2 (gw Γ)  m_29 _ hk_30) ?_
            refine g_icmp_eq (tgt := 2281) C dL_law_408 (by decide) (fun c_31 => ?_) (fun c_31 => ?_)
            · replace h := it_t c_31 h
              refine g_iinc (q := 5) (v := v5 + (6 : Int32)) (lv' := [(5, .int (v5 + (6 : Int32))), (0, .ref b), (1, .ref (oa (gw Γ) 0)), (2, .ref (oa (gw Γ) 95)), (3, .ref (oa (gw Γ) 108)), (4, .ref (oa (gw Γ) 109))]) C dL_law_2281 rfl rfl (by decide) rfl ?_
              refine g_goto (tgt := 28) C dL_law_2284 (by decide) ?_
              refine g_sub [1, 2, 3, 4, 5, 0] rfl ?_
              exact hrec (v5 + (6 : Int32)) m_30 _ (by omega) h
            · replace h := it_f c_31 h
              cases h
          · replace h := it_f c_32 h
            by_cases c_36 : ((xs v5.toNatClampNeg) &&& (63 : Int32)) = (4 : Int32)
            · replace h := it_t c_36 h
              refine g_tin (tgt := 413) (off := 368) C dL_law_45 (by rw [c_36]; decide) (by rw [c_36]; decide) (by rw [c_36]; rfl) (by decide) ?_
              refine g_aload_n C dL_law_413 1 rfl rfl ?_
              obtain ⟨r_33, m_33, hk_33, h⟩ := b2_some h
              refine g_vI (As := []) (a := 0) (ci := 9) C dL_law_414 mf_X9_errorPosition k_997 rfl (by decide) ⟨by decide, by decide⟩ rfl rfl (Nat.le_of_ble_eq_true rfl) (by omega) rfl (c_X9_errorPosition N (gl Γ) C.2.2.2.2 (gw Γ)  m _ hk_33) ?_
              refine g_aload_n C dL_law_417 2 rfl rfl ?_
              obtain ⟨r_34, m_34, hk_34, h⟩ := b2_some h
              refine g_vI (As := []) (a := 95) (ci := 10) C dL_law_418 mf_X10_errorPosition k_1001 rfl (by decide) ⟨by decide, by decide⟩ rfl rfl (Nat.le_of_ble_eq_true rfl) (by omega) rfl (c_X10_errorPosition N (gl Γ) C.2.2.2.2 (gw Γ)  m_33 _ hk_34) ?_
              refine g_icmp_eq (tgt := 2281) C dL_law_421 (by decide) (fun c_35 => ?_) (fun c_35 => ?_)
              · replace h := it_t c_35 h
                refine g_iinc (q := 5) (v := v5 + (6 : Int32)) (lv' := [(5, .int (v5 + (6 : Int32))), (0, .ref b), (1, .ref (oa (gw Γ) 0)), (2, .ref (oa (gw Γ) 95)), (3, .ref (oa (gw Γ) 108)), (4, .ref (oa (gw Γ) 109))]) C dL_law_2281 rfl rfl (by decide) rfl ?_
                refine g_goto (tgt := 28) C dL_law_2284 (by decide) ?_
                refine g_sub [1, 2, 3, 4, 5, 0] rfl ?_
                exact hrec (v5 + (6 : Int32)) m_34 _ (by omega) h
              · replace h := it_f c_35 h
                cases h
            · replace h := it_f c_36 h
              by_cases c_44 : ((xs v5.toNatClampNeg) &&& (63 : Int32)) = (5 : Int32)
              · replace h := it_t c_44 h
                refine g_tin (tgt := 426) (off := 381) C dL_law_45 (by rw [c_44]; decide) (by rw [c_44]; decide) (by rw [c_44]; rfl) (by decide) ?_
                refine g_aload_n C dL_law_426 1 rfl rfl ?_
                refine g_aload_n C dL_law_427 0 rfl rfl ?_
                refine g_iload C dL_law_428 5 rfl ?_
                refine g_iconst (v := (1 : Int32)) C dL_law_430 (by decide) ?_
                refine g_iadd C dL_law_431 ?_
                obtain ⟨g_37, h⟩ := gd_some h
                refine g_sld C S dL_law_432 g_37 ?_
                refine g_aload_n C dL_law_433 3 rfl rfl ?_
                obtain ⟨r_38, m_38, hk_38, h⟩ := b2_some h
                refine g_wI (As := [.ref (oa (gw Γ) 0), .int (xs (v5 + (1 : Int32)).toNatClampNeg), .ref (oa (gw Γ) 108)]) (mc' := 1) C dL_law_434 mf_L_count k_1005 ⟨by decide, by decide⟩ rfl rfl (Nat.le_of_ble_eq_true rfl) (by omega) (c_L_count N (gl Γ) C.2.2.2.2 (gw Γ) (xs (v5 + (1 : Int32)).toNatClampNeg) m _ hk_38) ?_
                refine g_istore (lv' := [(6, .int r_38), (0, .ref b), (1, .ref (oa (gw Γ) 0)), (2, .ref (oa (gw Γ) 95)), (3, .ref (oa (gw Γ) 108)), (4, .ref (oa (gw Γ) 109)), (5, .int v5)]) C dL_law_437 (by decide) rfl ?_
                refine g_aload_n C dL_law_439 3 rfl rfl ?_
                refine g_aload_n C dL_law_440 1 rfl rfl ?_
                refine g_iload C dL_law_441 6 rfl ?_
                refine g_iconst (v := (1 : Int32)) C dL_law_443 (by decide) ?_
                refine g_iadd C dL_law_444 ?_
                refine g_sld C S dL_law_445 g_37 ?_
                obtain ⟨r_39, m_39, hk_39, h⟩ := b2_some h
                refine g_vI (As := [.int (xs (v5 + (1 : Int32)).toNatClampNeg)]) (a := 95) (ci := 10) C dL_law_446 mf_X10_count k_1006 rfl (by decide) ⟨by decide, by decide⟩ rfl rfl (Nat.le_of_ble_eq_true rfl) (by omega) rfl (c_X10_count N (gl Γ) C.2.2.2.2 (gw Γ) (xs (v5 + (1 : Int32)).toNatClampNeg) m_38 _ hk_39) ?_
                refine g_istore (lv' := [(7, .int r_39), (6, .int r_38), (0, .ref b), (1, .ref (oa (gw Γ) 0)), (2, .ref (oa (gw Γ) 95)), (3, .ref (oa (gw Γ) 108)), (4, .ref (oa (gw Γ) 109)), (5, .int v5)]) C dL_law_449 (by decide) rfl ?_
                refine g_aload_n C dL_law_451 4 rfl rfl ?_
                obtain ⟨r_40, m_40, hk_40, h⟩ := b2_some h
                refine g_vI (As := []) (a := 95) (ci := 10) C dL_law_452 mf_X10_thrown k_975 rfl (by decide) ⟨by decide, by decide⟩ rfl rfl (Nat.le_of_ble_eq_true rfl) (by omega) rfl (c_X10_thrown N (gl Γ) C.2.2.2.2 (gw Γ)  m_39 _ hk_40) ?_
                refine g_iload C dL_law_455 1 rfl ?_
                refine g_icmp_eq (tgt := 462) C dL_law_457 (by decide) (fun c_43 => ?_) (fun c_43 => ?_)
                · replace h := it_t c_43 h
                  refine g_iload C dL_law_462 1 rfl ?_
                  refine g_if_ne (tgt := 479) C dL_law_464 (by decide) (fun c_42 => ?_) (fun c_42 => ?_)
                  · replace h := it_f c_42 h
                    refine g_goto (tgt := 2281) C dL_law_479 (by decide) ?_
                    refine g_iinc (q := 7) (v := v5 + (6 : Int32)) (lv' := [(5, .int (v5 + (6 : Int32))), (7, .int r_39), (6, .int r_38), (0, .ref b), (1, .ref (oa (gw Γ) 0)), (2, .ref (oa (gw Γ) 95)), (3, .ref (oa (gw Γ) 108)), (4, .ref (oa (gw Γ) 109))]) C dL_law_2281 rfl rfl (by decide) rfl ?_
                    refine g_goto (tgt := 28) C dL_law_2284 (by decide) ?_
                    refine g_sub [3, 4, 5, 6, 7, 0] rfl ?_
                    exact hrec (v5 + (6 : Int32)) m_40 _ (by omega) h
                  · replace h := it_t c_42 h
                    refine g_aload_n C dL_law_467 5 rfl rfl ?_
                    refine g_iconst (v := (0 : Int32)) C dL_law_468 (by decide) ?_
                    refine g_lald' (j := 0) C dL_law_469 (okA_of rfl rfl (by decide)) (by decide) ?_
                    refine g_iload C dL_law_470 0 rfl ?_
                    refine g_i2l C dL_law_472 ?_
                    refine g_lcmp C dL_law_473 ?_
                    refine g_if_eq (tgt := 479) C dL_law_474 (by decide) (fun c_41 => ?_) (fun c_41 => ?_)
                    · replace h := it_t c_41 h
                      refine g_goto (tgt := 2281) C dL_law_479 (by decide) ?_
                      refine g_iinc (q := 7) (v := v5 + (6 : Int32)) (lv' := [(5, .int (v5 + (6 : Int32))), (7, .int r_39), (6, .int r_38), (0, .ref b), (1, .ref (oa (gw Γ) 0)), (2, .ref (oa (gw Γ) 95)), (3, .ref (oa (gw Γ) 108)), (4, .ref (oa (gw Γ) 109))]) C dL_law_2281 rfl rfl (by decide) rfl ?_
                      refine g_goto (tgt := 28) C dL_law_2284 (by decide) ?_
                      refine g_sub [3, 4, 5, 6, 7, 0] rfl ?_
                      exact hrec (v5 + (6 : Int32)) m_40 _ (by omega) h
                    · replace h := it_f c_41 h
                      cases h
                · replace h := it_f c_43 h
                  cases h
              · replace h := it_f c_44 h
                by_cases c_54 : ((xs v5.toNatClampNeg) &&& (63 : Int32)) = (6 : Int32)
                · replace h := it_t c_54 h
                  refine g_tin (tgt := 482) (off := 437) C dL_law_45 (by rw [c_54]; decide) (by rw [c_54]; decide) (by rw [c_54]; rfl) (by decide) ?_
                  refine g_aload_n C dL_law_482 1 rfl rfl ?_
                  refine g_aload_n C dL_law_483 0 rfl rfl ?_
                  refine g_iload C dL_law_484 5 rfl ?_
                  refine g_iconst (v := (1 : Int32)) C dL_law_486 (by decide) ?_
                  refine g_iadd C dL_law_487 ?_
                  obtain ⟨g_45, h⟩ := gd_some h
                  refine g_sld C S dL_law_488 g_45 ?_
                  refine g_aload_n C dL_law_489 0 rfl rfl ?_
                  refine g_iload C dL_law_490 5 rfl ?_
                  refine g_iconst (v := (2 : Int32)) C dL_law_492 (by decide) ?_
                  refine g_iadd C dL_law_493 ?_
                  obtain ⟨g_46, h⟩ := gd_some h
                  refine g_sld C S dL_law_494 g_46 ?_
                  refine g_aload_n C dL_law_495 3 rfl rfl ?_
                  obtain ⟨r_47, m_47, hk_47, h⟩ := b2_some h
                  refine g_wI (As := [.ref (oa (gw Γ) 0), .int (xs (v5 + (1 : Int32)).toNatClampNeg), .int (xs (v5 + (2 : Int32)).toNatClampNeg), .ref (oa (gw Γ) 108)]) (mc' := 2) C dL_law_496 mf_L_isConflict k_1010 ⟨by decide, by decide⟩ rfl rfl (Nat.le_of_ble_eq_true rfl) (by omega) (c_L_isConflict N (gl Γ) C.2.2.2.2 (gw Γ) (xs (v5 + (1 : Int32)).toNatClampNeg) (xs (v5 + (2 : Int32)).toNatClampNeg) m _ hk_47) ?_
                  refine g_istore (lv' := [(6, .int r_47), (0, .ref b), (1, .ref (oa (gw Γ) 0)), (2, .ref (oa (gw Γ) 95)), (3, .ref (oa (gw Γ) 108)), (4, .ref (oa (gw Γ) 109)), (5, .int v5)]) C dL_law_499 (by decide) rfl ?_
                  refine g_aload_n C dL_law_501 3 rfl rfl ?_
                  refine g_aload_n C dL_law_502 1 rfl rfl ?_
                  refine g_iload C dL_law_503 6 rfl ?_
                  refine g_iconst (v := (1 : Int32)) C dL_law_505 (by decide) ?_
                  refine g_iadd C dL_law_506 ?_
                  refine g_sld C S dL_law_507 g_45 ?_
                  refine g_aload_n C dL_law_508 1 rfl rfl ?_
                  refine g_iload C dL_law_509 6 rfl ?_
                  refine g_iconst (v := (2 : Int32)) C dL_law_511 (by decide) ?_
                  refine g_iadd C dL_law_512 ?_
                  refine g_sld C S dL_law_513 g_46 ?_
                  obtain ⟨r_48, m_48, hk_48, h⟩ := b2_some h
                  refine g_vI (As := [.int (xs (v5 + (1 : Int32)).toNatClampNeg), .int (xs (v5 + (2 : Int32)).toNatClampNeg)]) (a := 95) (ci := 10) C dL_law_514 mf_X10_isConflict k_1011 rfl (by decide) ⟨by decide, by decide⟩ rfl rfl (Nat.le_of_ble_eq_true rfl) (by omega) rfl (c_X10_isConflict N (gl Γ) C.2.2.2.2 (gw Γ) (xs (v5 + (1 : Int32)).toNatClampNeg) (xs (v5 + (2 : Int32)).toNatClampNeg) m_47 _ hk_48) ?_
                  refine g_istore (lv' := [(7, .int r_48), (6, .int r_47), (0, .ref b), (1, .ref (oa (gw Γ) 0)), (2, .ref (oa (gw Γ) 95)), (3, .ref (oa (gw Γ) 108)), (4, .ref (oa (gw Γ) 109)), (5, .int v5)]) C dL_law_517 (by decide) rfl ?_
                  refine g_aload_n C dL_law_519 4 rfl rfl ?_
                  obtain ⟨r_49, m_49, hk_49, h⟩ := b2_some h
                  refine g_vI (As := []) (a := 95) (ci := 10) C dL_law_520 mf_X10_thrown k_975 rfl (by decide) ⟨by decide, by decide⟩ rfl rfl (Nat.le_of_ble_eq_true rfl) (by omega) rfl (c_X10_thrown N (gl Γ) C.2.2.2.2 (gw Γ)  m_48 _ hk_49) ?_
                  refine g_iload C dL_law_523 1 rfl ?_
                  refine g_icmp_eq (tgt := 530) C dL_law_525 (by decide) (fun c_53 => ?_) (fun c_53 => ?_)
                  · replace h := it_t c_53 h
                    refine g_iload C dL_law_530 1 rfl ?_
                    refine g_if_ne (tgt := 554) C dL_law_532 (by decide) (fun c_52 => ?_) (fun c_52 => ?_)
                    · replace h := it_f c_52 h
                      refine g_goto (tgt := 2281) C dL_law_554 (by decide) ?_
                      refine g_iinc (q := 7) (v := v5 + (6 : Int32)) (lv' := [(5, .int (v5 + (6 : Int32))), (7, .int r_48), (6, .int r_47), (0, .ref b), (1, .ref (oa (gw Γ) 0)), (2, .ref (oa (gw Γ) 95)), (3, .ref (oa (gw Γ) 108)), (4, .ref (oa (gw Γ) 109))]) C dL_law_2281 rfl rfl (by decide) rfl ?_
                      refine g_goto (tgt := 28) C dL_law_2284 (by decide) ?_
                      refine g_sub [3, 4, 5, 6, 7, 0] rfl ?_
                      exact hrec (v5 + (6 : Int32)) m_49 _ (by omega) h
                    · replace h := it_t c_52 h
                      refine g_aload_n C dL_law_535 5 rfl rfl ?_
                      refine g_iconst (v := (0 : Int32)) C dL_law_536 (by decide) ?_
                      refine g_lald' (j := 0) C dL_law_537 (okA_of rfl rfl (by decide)) (by decide) ?_
                      refine g_iload C dL_law_538 0 rfl ?_
                      refine g_if_eq (tgt := 547) C dL_law_540 (by decide) (fun c_51 => ?_) (fun c_51 => ?_)
                      · replace h := it_t c_51 h
                        refine g_lconst (v := (0 : Int64)) C dL_law_547 (by decide) ?_
                        refine g_sub [2, 3, 4, 5, 6, 7] rfl ?_
                        exact t_L_law_548 N Γ C b L xs S o rc cm _ (by omega) hcm hE hrec v5 (0 : Int64) (gJ m_49 108 0) m_49 h
                      · replace h := it_f c_51 h
                        refine g_lconst (v := (1 : Int64)) C dL_law_543 (by decide) ?_
                        refine g_goto (tgt := 548) C dL_law_544 (by decide) ?_
                        refine g_sub [2, 3, 4, 5, 6, 7] rfl ?_
                        exact t_L_law_548 N Γ C b L xs S o rc cm _ (by omega) hcm hE hrec v5 (1 : Int64) (gJ m_49 108 0) m_49 h
                  · replace h := it_f c_53 h
                    cases h
                · replace h := it_f c_54 h
                  by_cases c_63 : ((xs v5.toNatClampNeg) &&& (63 : Int32)) = (7 : Int32)
                  · replace h := it_t c_63 h
                    refine g_tin (tgt := 557) (off := 512) C dL_law_45 (by rw [c_63]; decide) (by rw [c_63]; decide) (by rw [c_63]; rfl) (by decide) ?_
                    refine g_aload_n C dL_law_557 1 rfl rfl ?_
                    refine g_aload_n C dL_law_558 0 rfl rfl ?_
                    refine g_iload C dL_law_559 5 rfl ?_
                    refine g_iconst (v := (1 : Int32)) C dL_law_561 (by decide) ?_
                    refine g_iadd C dL_law_562 ?_
                    obtain ⟨g_55, h⟩ := gd_some h
                    refine g_sld C S dL_law_563 g_55 ?_
                    refine g_aload_n C dL_law_564 0 rfl rfl ?_
                    refine g_iload C dL_law_565 5 rfl ?_
                    refine g_iconst (v := (2 : Int32)) C dL_law_567 (by decide) ?_
                    refine g_iadd C dL_law_568 ?_
                    obtain ⟨g_56, h⟩ := gd_some h
                    refine g_sld C S dL_law_569 g_56 ?_
                    refine g_aload_n C dL_law_570 3 rfl rfl ?_
                    obtain ⟨r_57, m_57, hk_57, h⟩ := b2_some h
                    refine g_wI (As := [.ref (oa (gw Γ) 0), .int (xs (v5 + (1 : Int32)).toNatClampNeg), .int (xs (v5 + (2 : Int32)).toNatClampNeg), .ref (oa (gw Γ) 108)]) (mc' := 2) C dL_law_571 mf_L_match k_1015 ⟨by decide, by decide⟩ rfl rfl (Nat.le_of_ble_eq_true rfl) (by omega) (c_L_match N (gl Γ) C.2.2.2.2 (gw Γ) (xs (v5 + (1 : Int32)).toNatClampNeg) (xs (v5 + (2 : Int32)).toNatClampNeg) m _ hk_57) ?_
                    refine g_istore (lv' := [(6, .int r_57), (0, .ref b), (1, .ref (oa (gw Γ) 0)), (2, .ref (oa (gw Γ) 95)), (3, .ref (oa (gw Γ) 108)), (4, .ref (oa (gw Γ) 109)), (5, .int v5)]) C dL_law_574 (by decide) rfl ?_
                    refine g_aload_n C dL_law_576 3 rfl rfl ?_
                    refine g_aload_n C dL_law_577 1 rfl rfl ?_
                    refine g_iload C dL_law_578 6 rfl ?_
                    refine g_iconst (v := (1 : Int32)) C dL_law_580 (by decide) ?_
                    refine g_iadd C dL_law_581 ?_
                    refine g_sld C S dL_law_582 g_55 ?_
                    refine g_aload_n C dL_law_583 1 rfl rfl ?_
                    refine g_iload C dL_law_584 6 rfl ?_
                    refine g_iconst (v := (2 : Int32)) C dL_law_586 (by decide) ?_
                    refine g_iadd C dL_law_587 ?_
                    refine g_sld C S dL_law_588 g_56 ?_
                    obtain ⟨r_58, m_58, hk_58, h⟩ := b2_some h
                    refine g_vI (As := [.int (xs (v5 + (1 : Int32)).toNatClampNeg), .int (xs (v5 + (2 : Int32)).toNatClampNeg)]) (a := 95) (ci := 10) C dL_law_589 mf_X10_match k_1016 rfl (by decide) ⟨by decide, by decide⟩ rfl rfl (Nat.le_of_ble_eq_true rfl) (by omega) rfl (c_X10_match N (gl Γ) C.2.2.2.2 (gw Γ) (xs (v5 + (1 : Int32)).toNatClampNeg) (xs (v5 + (2 : Int32)).toNatClampNeg) m_57 _ hk_58) ?_
                    refine g_istore (lv' := [(7, .int r_58), (6, .int r_57), (0, .ref b), (1, .ref (oa (gw Γ) 0)), (2, .ref (oa (gw Γ) 95)), (3, .ref (oa (gw Γ) 108)), (4, .ref (oa (gw Γ) 109)), (5, .int v5)]) C dL_law_592 (by decide) rfl ?_
                    refine g_aload_n C dL_law_594 4 rfl rfl ?_
                    obtain ⟨r_59, m_59, hk_59, h⟩ := b2_some h
                    refine g_vI (As := []) (a := 95) (ci := 10) C dL_law_595 mf_X10_thrown k_975 rfl (by decide) ⟨by decide, by decide⟩ rfl rfl (Nat.le_of_ble_eq_true rfl) (by omega) rfl (c_X10_thrown N (gl Γ) C.2.2.2.2 (gw Γ)  m_58 _ hk_59) ?_
                    refine g_iload C dL_law_598 1 rfl ?_
                    refine g_icmp_eq (tgt := 605) C dL_law_600 (by decide) (fun c_62 => ?_) (fun c_62 => ?_)
                    · replace h := it_t c_62 h
                      refine g_iload C dL_law_605 1 rfl ?_
                      refine g_if_ne (tgt := 622) C dL_law_607 (by decide) (fun c_61 => ?_) (fun c_61 => ?_)
                      · replace h := it_f c_61 h
                        refine g_goto (tgt := 2281) C dL_law_622 (by decide) ?_
                        refine g_iinc (q := 7) (v := v5 + (6 : Int32)) (lv' := [(5, .int (v5 + (6 : Int32))), (7, .int r_58), (6, .int r_57), (0, .ref b), (1, .ref (oa (gw Γ) 0)), (2, .ref (oa (gw Γ) 95)), (3, .ref (oa (gw Γ) 108)), (4, .ref (oa (gw Γ) 109))]) C dL_law_2281 rfl rfl (by decide) rfl ?_
                        refine g_goto (tgt := 28) C dL_law_2284 (by decide) ?_
                        refine g_sub [3, 4, 5, 6, 7, 0] rfl ?_
                        exact hrec (v5 + (6 : Int32)) m_59 _ (by omega) h
                      · replace h := it_t c_61 h
                        refine g_aload_n C dL_law_610 5 rfl rfl ?_
                        refine g_iconst (v := (0 : Int32)) C dL_law_611 (by decide) ?_
                        refine g_lald' (j := 0) C dL_law_612 (okA_of rfl rfl (by decide)) (by decide) ?_
                        refine g_iload C dL_law_613 0 rfl ?_
                        refine g_i2l C dL_law_615 ?_
                        refine g_lcmp C dL_law_616 ?_
                        refine g_if_eq (tgt := 622) C dL_law_617 (by decide) (fun c_60 => ?_) (fun c_60 => ?_)
                        · replace h := it_t c_60 h
                          refine g_goto (tgt := 2281) C dL_law_622 (by decide) ?_
                          refine g_iinc (q := 7) (v := v5 + (6 : Int32)) (lv' := [(5, .int (v5 + (6 : Int32))), (7, .int r_58), (6, .int r_57), (0, .ref b), (1, .ref (oa (gw Γ) 0)), (2, .ref (oa (gw Γ) 95)), (3, .ref (oa (gw Γ) 108)), (4, .ref (oa (gw Γ) 109))]) C dL_law_2281 rfl rfl (by decide) rfl ?_
                          refine g_goto (tgt := 28) C dL_law_2284 (by decide) ?_
                          refine g_sub [3, 4, 5, 6, 7, 0] rfl ?_
                          exact hrec (v5 + (6 : Int32)) m_59 _ (by omega) h
                        · replace h := it_f c_60 h
                          cases h
                    · replace h := it_f c_62 h
                      cases h
                  · replace h := it_f c_63 h
                    by_cases c_73 : ((xs v5.toNatClampNeg) &&& (63 : Int32)) = (8 : Int32)
                    · replace h := it_t c_73 h
                      refine g_tin (tgt := 625) (off := 580) C dL_law_45 (by rw [c_73]; decide) (by rw [c_73]; decide) (by rw [c_73]; rfl) (by decide) ?_
                      refine g_aload_n C dL_law_625 1 rfl rfl ?_
                      refine g_aload_n C dL_law_626 0 rfl rfl ?_
                      refine g_iload C dL_law_627 5 rfl ?_
                      refine g_iconst (v := (1 : Int32)) C dL_law_629 (by decide) ?_
                      refine g_iadd C dL_law_630 ?_
                      obtain ⟨g_64, h⟩ := gd_some h
                      refine g_sld C S dL_law_631 g_64 ?_
                      refine g_aload_n C dL_law_632 0 rfl rfl ?_
                      refine g_iload C dL_law_633 5 rfl ?_
                      refine g_iconst (v := (2 : Int32)) C dL_law_635 (by decide) ?_
                      refine g_iadd C dL_law_636 ?_
                      obtain ⟨g_65, h⟩ := gd_some h
                      refine g_sld C S dL_law_637 g_65 ?_
                      refine g_aload_n C dL_law_638 3 rfl rfl ?_
                      obtain ⟨r_66, m_66, hk_66, h⟩ := b2_some h
                      refine g_wI (As := [.ref (oa (gw Γ) 0), .int (xs (v5 + (1 : Int32)).toNatClampNeg), .int (xs (v5 + (2 : Int32)).toNatClampNeg), .ref (oa (gw Γ) 108)]) (mc' := 3) C dL_law_639 mf_L_declare k_1020 ⟨by decide, by decide⟩ rfl rfl (Nat.le_of_ble_eq_true rfl) (by omega) (c_L_declare N (gl Γ) C.2.2.2.2 (gw Γ) (xs (v5 + (1 : Int32)).toNatClampNeg) (xs (v5 + (2 : Int32)).toNatClampNeg) m _ hk_66) ?_
                      refine g_istore (lv' := [(6, .int r_66), (0, .ref b), (1, .ref (oa (gw Γ) 0)), (2, .ref (oa (gw Γ) 95)), (3, .ref (oa (gw Γ) 108)), (4, .ref (oa (gw Γ) 109)), (5, .int v5)]) C dL_law_642 (by decide) rfl ?_
                      refine g_aload_n C dL_law_644 3 rfl rfl ?_
                      refine g_aload_n C dL_law_645 1 rfl rfl ?_
                      refine g_iload C dL_law_646 6 rfl ?_
                      refine g_iconst (v := (1 : Int32)) C dL_law_648 (by decide) ?_
                      refine g_iadd C dL_law_649 ?_
                      refine g_sld C S dL_law_650 g_64 ?_
                      refine g_aload_n C dL_law_651 1 rfl rfl ?_
                      refine g_iload C dL_law_652 6 rfl ?_
                      refine g_iconst (v := (2 : Int32)) C dL_law_654 (by decide) ?_
                      refine g_iadd C dL_law_655 ?_
                      refine g_sld C S dL_law_656 g_65 ?_
                      obtain ⟨r_67, m_67, hk_67, h⟩ := b2_some h
                      refine g_vI (As := [.int (xs (v5 + (1 : Int32)).toNatClampNeg), .int (xs (v5 + (2 : Int32)).toNatClampNeg)]) (a := 95) (ci := 10) C dL_law_657 mf_X10_declare k_1021 rfl (by decide) ⟨by decide, by decide⟩ rfl rfl (Nat.le_of_ble_eq_true rfl) (by omega) rfl (c_X10_declare N (gl Γ) C.2.2.2.2 (gw Γ) (xs (v5 + (1 : Int32)).toNatClampNeg) (xs (v5 + (2 : Int32)).toNatClampNeg) m_66 _ hk_67) ?_
                      refine g_istore (lv' := [(7, .int r_67), (6, .int r_66), (0, .ref b), (1, .ref (oa (gw Γ) 0)), (2, .ref (oa (gw Γ) 95)), (3, .ref (oa (gw Γ) 108)), (4, .ref (oa (gw Γ) 109)), (5, .int v5)]) C dL_law_660 (by decide) rfl ?_
                      refine g_aload_n C dL_law_662 4 rfl rfl ?_
                      obtain ⟨r_68, m_68, hk_68, h⟩ := b2_some h
                      refine g_vI (As := []) (a := 95) (ci := 10) C dL_law_663 mf_X10_thrown k_975 rfl (by decide) ⟨by decide, by decide⟩ rfl rfl (Nat.le_of_ble_eq_true rfl) (by omega) rfl (c_X10_thrown N (gl Γ) C.2.2.2.2 (gw Γ)  m_67 _ hk_68) ?_
                      refine g_iload C dL_law_666 1 rfl ?_
                      refine g_icmp_eq (tgt := 673) C dL_law_668 (by decide) (fun c_72 => ?_) (fun c_72 => ?_)
                      · replace h := it_t c_72 h
                        refine g_iload C dL_law_673 1 rfl ?_
                        refine g_if_ne (tgt := 697) C dL_law_675 (by decide) (fun c_71 => ?_) (fun c_71 => ?_)
                        · replace h := it_f c_71 h
                          refine g_goto (tgt := 2281) C dL_law_697 (by decide) ?_
                          refine g_iinc (q := 7) (v := v5 + (6 : Int32)) (lv' := [(5, .int (v5 + (6 : Int32))), (7, .int r_67), (6, .int r_66), (0, .ref b), (1, .ref (oa (gw Γ) 0)), (2, .ref (oa (gw Γ) 95)), (3, .ref (oa (gw Γ) 108)), (4, .ref (oa (gw Γ) 109))]) C dL_law_2281 rfl rfl (by decide) rfl ?_
                          refine g_goto (tgt := 28) C dL_law_2284 (by decide) ?_
                          refine g_sub [3, 4, 5, 6, 7, 0] rfl ?_
                          exact hrec (v5 + (6 : Int32)) m_68 _ (by omega) h
                        · replace h := it_t c_71 h
                          refine g_aload_n C dL_law_678 5 rfl rfl ?_
                          refine g_iconst (v := (0 : Int32)) C dL_law_679 (by decide) ?_
                          refine g_lald' (j := 0) C dL_law_680 (okA_of rfl rfl (by decide)) (by decide) ?_
                          refine g_iload C dL_law_681 0 rfl ?_
                          refine g_if_eq (tgt := 690) C dL_law_683 (by decide) (fun c_70 => ?_) (fun c_70 => ?_)
                          · replace h := it_t c_70 h
                            refine g_lconst (v := (0 : Int64)) C dL_law_690 (by decide) ?_
                            refine g_sub [2, 3, 4, 5, 6, 7] rfl ?_
                            exact t_L_law_691 N Γ C b L xs S o rc cm _ (by omega) hcm hE hrec v5 (0 : Int64) (gJ m_68 108 0) m_68 h
                          · replace h := it_f c_70 h
                            refine g_lconst (v := (1 : Int64)) C dL_law_686 (by decide) ?_
                            refine g_goto (tgt := 691) C dL_law_687 (by decide) ?_
                            refine g_sub [2, 3, 4, 5, 6, 7] rfl ?_
                            exact t_L_law_691 N Γ C b L xs S o rc cm _ (by omega) hcm hE hrec v5 (1 : Int64) (gJ m_68 108 0) m_68 h
                      · replace h := it_f c_72 h
                        cases h
                    · replace h := it_f c_73 h
                      by_cases c_82 : ((xs v5.toNatClampNeg) &&& (63 : Int32)) = (9 : Int32)
                      · replace h := it_t c_82 h
                        refine g_tin (tgt := 700) (off := 655) C dL_law_45 (by rw [c_82]; decide) (by rw [c_82]; decide) (by rw [c_82]; rfl) (by decide) ?_
                        refine g_aload_n C dL_law_700 1 rfl rfl ?_
                        refine g_aload_n C dL_law_701 0 rfl rfl ?_
                        refine g_iload C dL_law_702 5 rfl ?_
                        refine g_iconst (v := (1 : Int32)) C dL_law_704 (by decide) ?_
                        refine g_iadd C dL_law_705 ?_
                        obtain ⟨g_74, h⟩ := gd_some h
                        refine g_sld C S dL_law_706 g_74 ?_
                        refine g_aload_n C dL_law_707 0 rfl rfl ?_
                        refine g_iload C dL_law_708 5 rfl ?_
                        refine g_iconst (v := (2 : Int32)) C dL_law_710 (by decide) ?_
                        refine g_iadd C dL_law_711 ?_
                        obtain ⟨g_75, h⟩ := gd_some h
                        refine g_sld C S dL_law_712 g_75 ?_
                        refine g_aload_n C dL_law_713 3 rfl rfl ?_
                        obtain ⟨r_76, m_76, hk_76, h⟩ := b2_some h
                        refine g_wI (As := [.ref (oa (gw Γ) 0), .int (xs (v5 + (1 : Int32)).toNatClampNeg), .int (xs (v5 + (2 : Int32)).toNatClampNeg), .ref (oa (gw Γ) 108)]) (mc' := 3) C dL_law_714 mf_L_assign k_1025 ⟨by decide, by decide⟩ rfl rfl (Nat.le_of_ble_eq_true rfl) (by omega) (c_L_assign N (gl Γ) C.2.2.2.2 (gw Γ) (xs (v5 + (1 : Int32)).toNatClampNeg) (xs (v5 + (2 : Int32)).toNatClampNeg) m _ hk_76) ?_
                        refine g_istore (lv' := [(6, .int r_76), (0, .ref b), (1, .ref (oa (gw Γ) 0)), (2, .ref (oa (gw Γ) 95)), (3, .ref (oa (gw Γ) 108)), (4, .ref (oa (gw Γ) 109)), (5, .int v5)]) C dL_law_717 (by decide) rfl ?_
                        refine g_aload_n C dL_law_719 3 rfl rfl ?_
                        refine g_aload_n C dL_law_720 1 rfl rfl ?_
                        refine g_iload C dL_law_721 6 rfl ?_
                        refine g_iconst (v := (1 : Int32)) C dL_law_723 (by decide) ?_
                        refine g_iadd C dL_law_724 ?_
                        refine g_sld C S dL_law_725 g_74 ?_
                        refine g_aload_n C dL_law_726 1 rfl rfl ?_
                        refine g_iload C dL_law_727 6 rfl ?_
                        refine g_iconst (v := (2 : Int32)) C dL_law_729 (by decide) ?_
                        refine g_iadd C dL_law_730 ?_
                        refine g_sld C S dL_law_731 g_75 ?_
                        obtain ⟨r_77, m_77, hk_77, h⟩ := b2_some h
                        refine g_vI (As := [.int (xs (v5 + (1 : Int32)).toNatClampNeg), .int (xs (v5 + (2 : Int32)).toNatClampNeg)]) (a := 95) (ci := 10) C dL_law_732 mf_X10_assign k_1026 rfl (by decide) ⟨by decide, by decide⟩ rfl rfl (Nat.le_of_ble_eq_true rfl) (by omega) rfl (c_X10_assign N (gl Γ) C.2.2.2.2 (gw Γ) (xs (v5 + (1 : Int32)).toNatClampNeg) (xs (v5 + (2 : Int32)).toNatClampNeg) m_76 _ hk_77) ?_
                        refine g_istore (lv' := [(7, .int r_77), (6, .int r_76), (0, .ref b), (1, .ref (oa (gw Γ) 0)), (2, .ref (oa (gw Γ) 95)), (3, .ref (oa (gw Γ) 108)), (4, .ref (oa (gw Γ) 109)), (5, .int v5)]) C dL_law_735 (by decide) rfl ?_
                        refine g_aload_n C dL_law_737 4 rfl rfl ?_
                        obtain ⟨r_78, m_78, hk_78, h⟩ := b2_some h
                        refine g_vI (As := []) (a := 95) (ci := 10) C dL_law_738 mf_X10_thrown k_975 rfl (by decide) ⟨by decide, by decide⟩ rfl rfl (Nat.le_of_ble_eq_true rfl) (by omega) rfl (c_X10_thrown N (gl Γ) C.2.2.2.2 (gw Γ)  m_77 _ hk_78) ?_
                        refine g_iload C dL_law_741 1 rfl ?_
                        refine g_icmp_eq (tgt := 748) C dL_law_743 (by decide) (fun c_81 => ?_) (fun c_81 => ?_)
                        · replace h := it_t c_81 h
                          refine g_iload C dL_law_748 1 rfl ?_
                          refine g_if_ne (tgt := 765) C dL_law_750 (by decide) (fun c_80 => ?_) (fun c_80 => ?_)
                          · replace h := it_f c_80 h
                            refine g_goto (tgt := 2281) C dL_law_765 (by decide) ?_
                            refine g_iinc (q := 7) (v := v5 + (6 : Int32)) (lv' := [(5, .int (v5 + (6 : Int32))), (7, .int r_77), (6, .int r_76), (0, .ref b), (1, .ref (oa (gw Γ) 0)), (2, .ref (oa (gw Γ) 95)), (3, .ref (oa (gw Γ) 108)), (4, .ref (oa (gw Γ) 109))]) C dL_law_2281 rfl rfl (by decide) rfl ?_
                            refine g_goto (tgt := 28) C dL_law_2284 (by decide) ?_
                            refine g_sub [3, 4, 5, 6, 7, 0] rfl ?_
                            exact hrec (v5 + (6 : Int32)) m_78 _ (by omega) h
                          · replace h := it_t c_80 h
                            refine g_aload_n C dL_law_753 5 rfl rfl ?_
                            refine g_iconst (v := (0 : Int32)) C dL_law_754 (by decide) ?_
                            refine g_lald' (j := 0) C dL_law_755 (okA_of rfl rfl (by decide)) (by decide) ?_
                            refine g_iload C dL_law_756 0 rfl ?_
                            refine g_i2l C dL_law_758 ?_
                            refine g_lcmp C dL_law_759 ?_
                            refine g_if_eq (tgt := 765) C dL_law_760 (by decide) (fun c_79 => ?_) (fun c_79 => ?_)
                            · replace h := it_t c_79 h
                              refine g_goto (tgt := 2281) C dL_law_765 (by decide) ?_
                              refine g_iinc (q := 7) (v := v5 + (6 : Int32)) (lv' := [(5, .int (v5 + (6 : Int32))), (7, .int r_77), (6, .int r_76), (0, .ref b), (1, .ref (oa (gw Γ) 0)), (2, .ref (oa (gw Γ) 95)), (3, .ref (oa (gw Γ) 108)), (4, .ref (oa (gw Γ) 109))]) C dL_law_2281 rfl rfl (by decide) rfl ?_
                              refine g_goto (tgt := 28) C dL_law_2284 (by decide) ?_
                              refine g_sub [3, 4, 5, 6, 7, 0] rfl ?_
                              exact hrec (v5 + (6 : Int32)) m_78 _ (by omega) h
                            · replace h := it_f c_79 h
                              cases h
                        · replace h := it_f c_81 h
                          cases h
                      · replace h := it_f c_82 h
                        by_cases c_91 : ((xs v5.toNatClampNeg) &&& (63 : Int32)) = (10 : Int32)
                        · replace h := it_t c_91 h
                          refine g_tin (tgt := 768) (off := 723) C dL_law_45 (by rw [c_91]; decide) (by rw [c_91]; decide) (by rw [c_91]; rfl) (by decide) ?_
                          refine g_aload_n C dL_law_768 1 rfl rfl ?_
                          refine g_aload_n C dL_law_769 0 rfl rfl ?_
                          refine g_iload C dL_law_770 5 rfl ?_
                          refine g_iconst (v := (1 : Int32)) C dL_law_772 (by decide) ?_
                          refine g_iadd C dL_law_773 ?_
                          obtain ⟨g_83, h⟩ := gd_some h
                          refine g_sld C S dL_law_774 g_83 ?_
                          refine g_aload_n C dL_law_775 0 rfl rfl ?_
                          refine g_iload C dL_law_776 5 rfl ?_
                          refine g_iconst (v := (2 : Int32)) C dL_law_778 (by decide) ?_
                          refine g_iadd C dL_law_779 ?_
                          obtain ⟨g_84, h⟩ := gd_some h
                          refine g_sld C S dL_law_780 g_84 ?_
                          refine g_aload_n C dL_law_781 3 rfl rfl ?_
                          obtain ⟨r_85, m_85, hk_85, h⟩ := b2_some h
                          refine g_wI (As := [.ref (oa (gw Γ) 0), .int (xs (v5 + (1 : Int32)).toNatClampNeg), .int (xs (v5 + (2 : Int32)).toNatClampNeg), .ref (oa (gw Γ) 108)]) (mc' := 3) C dL_law_782 mf_L_unassign k_1030 ⟨by decide, by decide⟩ rfl rfl (Nat.le_of_ble_eq_true rfl) (by omega) (c_L_unassign N (gl Γ) C.2.2.2.2 (gw Γ) (xs (v5 + (1 : Int32)).toNatClampNeg) (xs (v5 + (2 : Int32)).toNatClampNeg) m _ hk_85) ?_
                          refine g_istore (lv' := [(6, .int r_85), (0, .ref b), (1, .ref (oa (gw Γ) 0)), (2, .ref (oa (gw Γ) 95)), (3, .ref (oa (gw Γ) 108)), (4, .ref (oa (gw Γ) 109)), (5, .int v5)]) C dL_law_785 (by decide) rfl ?_
                          refine g_aload_n C dL_law_787 3 rfl rfl ?_
                          refine g_aload_n C dL_law_788 1 rfl rfl ?_
                          refine g_iload C dL_law_789 6 rfl ?_
                          refine g_iconst (v := (1 : Int32)) C dL_law_791 (by decide) ?_
                          refine g_iadd C dL_law_792 ?_
                          refine g_sld C S dL_law_793 g_83 ?_
                          refine g_aload_n C dL_law_794 1 rfl rfl ?_
                          refine g_iload C dL_law_795 6 rfl ?_
                          refine g_iconst (v := (2 : Int32)) C dL_law_797 (by decide) ?_
                          refine g_iadd C dL_law_798 ?_
                          refine g_sld C S dL_law_799 g_84 ?_
                          obtain ⟨r_86, m_86, hk_86, h⟩ := b2_some h
                          refine g_vI (As := [.int (xs (v5 + (1 : Int32)).toNatClampNeg), .int (xs (v5 + (2 : Int32)).toNatClampNeg)]) (a := 95) (ci := 10) C dL_law_800 mf_X10_unassign k_1031 rfl (by decide) ⟨by decide, by decide⟩ rfl rfl (Nat.le_of_ble_eq_true rfl) (by omega) rfl (c_X10_unassign N (gl Γ) C.2.2.2.2 (gw Γ) (xs (v5 + (1 : Int32)).toNatClampNeg) (xs (v5 + (2 : Int32)).toNatClampNeg) m_85 _ hk_86) ?_
                          refine g_istore (lv' := [(7, .int r_86), (6, .int r_85), (0, .ref b), (1, .ref (oa (gw Γ) 0)), (2, .ref (oa (gw Γ) 95)), (3, .ref (oa (gw Γ) 108)), (4, .ref (oa (gw Γ) 109)), (5, .int v5)]) C dL_law_803 (by decide) rfl ?_
                          refine g_aload_n C dL_law_805 4 rfl rfl ?_
                          obtain ⟨r_87, m_87, hk_87, h⟩ := b2_some h
                          refine g_vI (As := []) (a := 95) (ci := 10) C dL_law_806 mf_X10_thrown k_975 rfl (by decide) ⟨by decide, by decide⟩ rfl rfl (Nat.le_of_ble_eq_true rfl) (by omega) rfl (c_X10_thrown N (gl Γ) C.2.2.2.2 (gw Γ)  m_86 _ hk_87) ?_
                          refine g_iload C dL_law_809 1 rfl ?_
                          refine g_icmp_eq (tgt := 816) C dL_law_811 (by decide) (fun c_90 => ?_) (fun c_90 => ?_)
                          · replace h := it_t c_90 h
                            refine g_iload C dL_law_816 1 rfl ?_
                            refine g_if_ne (tgt := 833) C dL_law_818 (by decide) (fun c_89 => ?_) (fun c_89 => ?_)
                            · replace h := it_f c_89 h
                              refine g_goto (tgt := 2281) C dL_law_833 (by decide) ?_
                              refine g_iinc (q := 7) (v := v5 + (6 : Int32)) (lv' := [(5, .int (v5 + (6 : Int32))), (7, .int r_86), (6, .int r_85), (0, .ref b), (1, .ref (oa (gw Γ) 0)), (2, .ref (oa (gw Γ) 95)), (3, .ref (oa (gw Γ) 108)), (4, .ref (oa (gw Γ) 109))]) C dL_law_2281 rfl rfl (by decide) rfl ?_
                              refine g_goto (tgt := 28) C dL_law_2284 (by decide) ?_
                              refine g_sub [3, 4, 5, 6, 7, 0] rfl ?_
                              exact hrec (v5 + (6 : Int32)) m_87 _ (by omega) h
                            · replace h := it_t c_89 h
                              refine g_aload_n C dL_law_821 5 rfl rfl ?_
                              refine g_iconst (v := (0 : Int32)) C dL_law_822 (by decide) ?_
                              refine g_lald' (j := 0) C dL_law_823 (okA_of rfl rfl (by decide)) (by decide) ?_
                              refine g_iload C dL_law_824 0 rfl ?_
                              refine g_i2l C dL_law_826 ?_
                              refine g_lcmp C dL_law_827 ?_
                              refine g_if_eq (tgt := 833) C dL_law_828 (by decide) (fun c_88 => ?_) (fun c_88 => ?_)
                              · replace h := it_t c_88 h
                                refine g_goto (tgt := 2281) C dL_law_833 (by decide) ?_
                                refine g_iinc (q := 7) (v := v5 + (6 : Int32)) (lv' := [(5, .int (v5 + (6 : Int32))), (7, .int r_86), (6, .int r_85), (0, .ref b), (1, .ref (oa (gw Γ) 0)), (2, .ref (oa (gw Γ) 95)), (3, .ref (oa (gw Γ) 108)), (4, .ref (oa (gw Γ) 109))]) C dL_law_2281 rfl rfl (by decide) rfl ?_
                                refine g_goto (tgt := 28) C dL_law_2284 (by decide) ?_
                                refine g_sub [3, 4, 5, 6, 7, 0] rfl ?_
                                exact hrec (v5 + (6 : Int32)) m_87 _ (by omega) h
                              · replace h := it_f c_88 h
                                cases h
                          · replace h := it_f c_90 h
                            cases h
                        · replace h := it_f c_91 h
                          by_cases c_99 : ((xs v5.toNatClampNeg) &&& (63 : Int32)) = (11 : Int32)
                          · replace h := it_t c_99 h
                            refine g_tin (tgt := 836) (off := 791) C dL_law_45 (by rw [c_99]; decide) (by rw [c_99]; decide) (by rw [c_99]; rfl) (by decide) ?_
                            refine g_aload_n C dL_law_836 1 rfl rfl ?_
                            refine g_aload_n C dL_law_837 0 rfl rfl ?_
                            refine g_iload C dL_law_838 5 rfl ?_
                            refine g_iconst (v := (1 : Int32)) C dL_law_840 (by decide) ?_
                            refine g_iadd C dL_law_841 ?_
                            obtain ⟨g_92, h⟩ := gd_some h
                            refine g_sld C S dL_law_842 g_92 ?_
                            refine g_aload_n C dL_law_843 3 rfl rfl ?_
                            obtain ⟨r_93, m_93, hk_93, h⟩ := b2_some h
                            refine g_wI (As := [.ref (oa (gw Γ) 0), .int (xs (v5 + (1 : Int32)).toNatClampNeg), .ref (oa (gw Γ) 108)]) (mc' := 1) C dL_law_844 mf_L_assignAll k_1035 ⟨by decide, by decide⟩ rfl rfl (Nat.le_of_ble_eq_true rfl) (by omega) (c_L_assignAll N (gl Γ) C.2.2.2.2 (gw Γ) (xs (v5 + (1 : Int32)).toNatClampNeg) m _ hk_93) ?_
                            refine g_istore (lv' := [(6, .int r_93), (0, .ref b), (1, .ref (oa (gw Γ) 0)), (2, .ref (oa (gw Γ) 95)), (3, .ref (oa (gw Γ) 108)), (4, .ref (oa (gw Γ) 109)), (5, .int v5)]) C dL_law_847 (by decide) rfl ?_
                            refine g_aload_n C dL_law_849 3 rfl rfl ?_
                            refine g_aload_n C dL_law_850 1 rfl rfl ?_
                            refine g_iload C dL_law_851 6 rfl ?_
                            refine g_iconst (v := (1 : Int32)) C dL_law_853 (by decide) ?_
                            refine g_iadd C dL_law_854 ?_
                            refine g_sld C S dL_law_855 g_92 ?_
                            obtain ⟨r_94, m_94, hk_94, h⟩ := b2_some h
                            refine g_vI (As := [.int (xs (v5 + (1 : Int32)).toNatClampNeg)]) (a := 95) (ci := 10) C dL_law_856 mf_X10_assignAll k_1036 rfl (by decide) ⟨by decide, by decide⟩ rfl rfl (Nat.le_of_ble_eq_true rfl) (by omega) rfl (c_X10_assignAll N (gl Γ) C.2.2.2.2 (gw Γ) (xs (v5 + (1 : Int32)).toNatClampNeg) m_93 _ hk_94) ?_
                            refine g_istore (lv' := [(7, .int r_94), (6, .int r_93), (0, .ref b), (1, .ref (oa (gw Γ) 0)), (2, .ref (oa (gw Γ) 95)), (3, .ref (oa (gw Γ) 108)), (4, .ref (oa (gw Γ) 109)), (5, .int v5)]) C dL_law_859 (by decide) rfl ?_
                            refine g_aload_n C dL_law_861 4 rfl rfl ?_
                            obtain ⟨r_95, m_95, hk_95, h⟩ := b2_some h
                            refine g_vI (As := []) (a := 95) (ci := 10) C dL_law_862 mf_X10_thrown k_975 rfl (by decide) ⟨by decide, by decide⟩ rfl rfl (Nat.le_of_ble_eq_true rfl) (by omega) rfl (c_X10_thrown N (gl Γ) C.2.2.2.2 (gw Γ)  m_94 _ hk_95) ?_
                            refine g_iload C dL_law_865 1 rfl ?_
                            refine g_icmp_eq (tgt := 872) C dL_law_867 (by decide) (fun c_98 => ?_) (fun c_98 => ?_)
                            · replace h := it_t c_98 h
                              refine g_iload C dL_law_872 1 rfl ?_
                              refine g_if_ne (tgt := 889) C dL_law_874 (by decide) (fun c_97 => ?_) (fun c_97 => ?_)
                              · replace h := it_f c_97 h
                                refine g_goto (tgt := 2281) C dL_law_889 (by decide) ?_
                                refine g_iinc (q := 7) (v := v5 + (6 : Int32)) (lv' := [(5, .int (v5 + (6 : Int32))), (7, .int r_94), (6, .int r_93), (0, .ref b), (1, .ref (oa (gw Γ) 0)), (2, .ref (oa (gw Γ) 95)), (3, .ref (oa (gw Γ) 108)), (4, .ref (oa (gw Γ) 109))]) C dL_law_2281 rfl rfl (by decide) rfl ?_
                                refine g_goto (tgt := 28) C dL_law_2284 (by decide) ?_
                                refine g_sub [3, 4, 5, 6, 7, 0] rfl ?_
                                exact hrec (v5 + (6 : Int32)) m_95 _ (by omega) h
                              · replace h := it_t c_97 h
                                refine g_aload_n C dL_law_877 5 rfl rfl ?_
                                refine g_iconst (v := (0 : Int32)) C dL_law_878 (by decide) ?_
                                refine g_lald' (j := 0) C dL_law_879 (okA_of rfl rfl (by decide)) (by decide) ?_
                                refine g_iload C dL_law_880 0 rfl ?_
                                refine g_i2l C dL_law_882 ?_
                                refine g_lcmp C dL_law_883 ?_
                                refine g_if_eq (tgt := 889) C dL_law_884 (by decide) (fun c_96 => ?_) (fun c_96 => ?_)
                                · replace h := it_t c_96 h
                                  refine g_goto (tgt := 2281) C dL_law_889 (by decide) ?_
                                  refine g_iinc (q := 7) (v := v5 + (6 : Int32)) (lv' := [(5, .int (v5 + (6 : Int32))), (7, .int r_94), (6, .int r_93), (0, .ref b), (1, .ref (oa (gw Γ) 0)), (2, .ref (oa (gw Γ) 95)), (3, .ref (oa (gw Γ) 108)), (4, .ref (oa (gw Γ) 109))]) C dL_law_2281 rfl rfl (by decide) rfl ?_
                                  refine g_goto (tgt := 28) C dL_law_2284 (by decide) ?_
                                  refine g_sub [3, 4, 5, 6, 7, 0] rfl ?_
                                  exact hrec (v5 + (6 : Int32)) m_95 _ (by omega) h
                                · replace h := it_f c_96 h
                                  cases h
                            · replace h := it_f c_98 h
                              cases h
                          · replace h := it_f c_99 h
                            by_cases c_108 : ((xs v5.toNatClampNeg) &&& (63 : Int32)) = (12 : Int32)
                            · replace h := it_t c_108 h
                              refine g_tin (tgt := 892) (off := 847) C dL_law_45 (by rw [c_108]; decide) (by rw [c_108]; decide) (by rw [c_108]; rfl) (by decide) ?_
                              refine g_aload_n C dL_law_892 1 rfl rfl ?_
                              refine g_aload_n C dL_law_893 0 rfl rfl ?_
                              refine g_iload C dL_law_894 5 rfl ?_
                              refine g_iconst (v := (1 : Int32)) C dL_law_896 (by decide) ?_
                              refine g_iadd C dL_law_897 ?_
                              obtain ⟨g_100, h⟩ := gd_some h
                              refine g_sld C S dL_law_898 g_100 ?_
                              refine g_aload_n C dL_law_899 0 rfl rfl ?_
                              refine g_iload C dL_law_900 5 rfl ?_
                              refine g_iconst (v := (2 : Int32)) C dL_law_902 (by decide) ?_
                              refine g_iadd C dL_law_903 ?_
                              obtain ⟨g_101, h⟩ := gd_some h
                              refine g_sld C S dL_law_904 g_101 ?_
                              refine g_aload_n C dL_law_905 3 rfl rfl ?_
                              obtain ⟨r_102, m_102, hk_102, h⟩ := b2_some h
                              refine g_wI (As := [.ref (oa (gw Γ) 0), .int (xs (v5 + (1 : Int32)).toNatClampNeg), .int (xs (v5 + (2 : Int32)).toNatClampNeg), .ref (oa (gw Γ) 108)]) (mc' := 2) C dL_law_906 mf_L_reviewerOf k_1040 ⟨by decide, by decide⟩ rfl rfl (Nat.le_of_ble_eq_true rfl) (by omega) (c_L_reviewerOf N (gl Γ) C.2.2.2.2 (gw Γ) (xs (v5 + (1 : Int32)).toNatClampNeg) (xs (v5 + (2 : Int32)).toNatClampNeg) m _ hk_102) ?_
                              refine g_istore (lv' := [(6, .int r_102), (0, .ref b), (1, .ref (oa (gw Γ) 0)), (2, .ref (oa (gw Γ) 95)), (3, .ref (oa (gw Γ) 108)), (4, .ref (oa (gw Γ) 109)), (5, .int v5)]) C dL_law_909 (by decide) rfl ?_
                              refine g_aload_n C dL_law_911 3 rfl rfl ?_
                              refine g_aload_n C dL_law_912 1 rfl rfl ?_
                              refine g_iload C dL_law_913 6 rfl ?_
                              refine g_iconst (v := (1 : Int32)) C dL_law_915 (by decide) ?_
                              refine g_iadd C dL_law_916 ?_
                              refine g_sld C S dL_law_917 g_100 ?_
                              refine g_aload_n C dL_law_918 1 rfl rfl ?_
                              refine g_iload C dL_law_919 6 rfl ?_
                              refine g_iconst (v := (2 : Int32)) C dL_law_921 (by decide) ?_
                              refine g_iadd C dL_law_922 ?_
                              refine g_sld C S dL_law_923 g_101 ?_
                              obtain ⟨r_103, m_103, hk_103, h⟩ := b2_some h
                              refine g_vI (As := [.int (xs (v5 + (1 : Int32)).toNatClampNeg), .int (xs (v5 + (2 : Int32)).toNatClampNeg)]) (a := 95) (ci := 10) C dL_law_924 mf_X10_reviewerOf k_1041 rfl (by decide) ⟨by decide, by decide⟩ rfl rfl (Nat.le_of_ble_eq_true rfl) (by omega) rfl (c_X10_reviewerOf N (gl Γ) C.2.2.2.2 (gw Γ) (xs (v5 + (1 : Int32)).toNatClampNeg) (xs (v5 + (2 : Int32)).toNatClampNeg) m_102 _ hk_103) ?_
                              refine g_istore (lv' := [(7, .int r_103), (6, .int r_102), (0, .ref b), (1, .ref (oa (gw Γ) 0)), (2, .ref (oa (gw Γ) 95)), (3, .ref (oa (gw Γ) 108)), (4, .ref (oa (gw Γ) 109)), (5, .int v5)]) C dL_law_927 (by decide) rfl ?_
                              refine g_aload_n C dL_law_929 4 rfl rfl ?_
                              obtain ⟨r_104, m_104, hk_104, h⟩ := b2_some h
                              refine g_vI (As := []) (a := 95) (ci := 10) C dL_law_930 mf_X10_thrown k_975 rfl (by decide) ⟨by decide, by decide⟩ rfl rfl (Nat.le_of_ble_eq_true rfl) (by omega) rfl (c_X10_thrown N (gl Γ) C.2.2.2.2 (gw Γ)  m_103 _ hk_104) ?_
                              refine g_iload C dL_law_933 1 rfl ?_
                              refine g_icmp_eq (tgt := 940) C dL_law_935 (by decide) (fun c_107 => ?_) (fun c_107 => ?_)
                              · replace h := it_t c_107 h
                                refine g_iload C dL_law_940 1 rfl ?_
                                refine g_if_ne (tgt := 957) C dL_law_942 (by decide) (fun c_106 => ?_) (fun c_106 => ?_)
                                · replace h := it_f c_106 h
                                  refine g_goto (tgt := 2281) C dL_law_957 (by decide) ?_
                                  refine g_iinc (q := 7) (v := v5 + (6 : Int32)) (lv' := [(5, .int (v5 + (6 : Int32))), (7, .int r_103), (6, .int r_102), (0, .ref b), (1, .ref (oa (gw Γ) 0)), (2, .ref (oa (gw Γ) 95)), (3, .ref (oa (gw Γ) 108)), (4, .ref (oa (gw Γ) 109))]) C dL_law_2281 rfl rfl (by decide) rfl ?_
                                  refine g_goto (tgt := 28) C dL_law_2284 (by decide) ?_
                                  refine g_sub [3, 4, 5, 6, 7, 0] rfl ?_
                                  exact hrec (v5 + (6 : Int32)) m_104 _ (by omega) h
                                · replace h := it_t c_106 h
                                  refine g_aload_n C dL_law_945 5 rfl rfl ?_
                                  refine g_iconst (v := (0 : Int32)) C dL_law_946 (by decide) ?_
                                  refine g_lald' (j := 0) C dL_law_947 (okA_of rfl rfl (by decide)) (by decide) ?_
                                  refine g_iload C dL_law_948 0 rfl ?_
                                  refine g_i2l C dL_law_950 ?_
                                  refine g_lcmp C dL_law_951 ?_
                                  refine g_if_eq (tgt := 957) C dL_law_952 (by decide) (fun c_105 => ?_) (fun c_105 => ?_)
                                  · replace h := it_t c_105 h
                                    refine g_goto (tgt := 2281) C dL_law_957 (by decide) ?_
                                    refine g_iinc (q := 7) (v := v5 + (6 : Int32)) (lv' := [(5, .int (v5 + (6 : Int32))), (7, .int r_103), (6, .int r_102), (0, .ref b), (1, .ref (oa (gw Γ) 0)), (2, .ref (oa (gw Γ) 95)), (3, .ref (oa (gw Γ) 108)), (4, .ref (oa (gw Γ) 109))]) C dL_law_2281 rfl rfl (by decide) rfl ?_
                                    refine g_goto (tgt := 28) C dL_law_2284 (by decide) ?_
                                    refine g_sub [3, 4, 5, 6, 7, 0] rfl ?_
                                    exact hrec (v5 + (6 : Int32)) m_104 _ (by omega) h
                                  · replace h := it_f c_105 h
                                    cases h
                              · replace h := it_f c_107 h
                                cases h
                            · replace h := it_f c_108 h
                              by_cases c_116 : ((xs v5.toNatClampNeg) &&& (63 : Int32)) = (13 : Int32)
                              · replace h := it_t c_116 h
                                refine g_tin (tgt := 960) (off := 915) C dL_law_45 (by rw [c_116]; decide) (by rw [c_116]; decide) (by rw [c_116]; rfl) (by decide) ?_
                                refine g_aload_n C dL_law_960 1 rfl rfl ?_
                                refine g_aload_n C dL_law_961 0 rfl rfl ?_
                                refine g_iload C dL_law_962 5 rfl ?_
                                refine g_iconst (v := (1 : Int32)) C dL_law_964 (by decide) ?_
                                refine g_iadd C dL_law_965 ?_
                                obtain ⟨g_109, h⟩ := gd_some h
                                refine g_sld C S dL_law_966 g_109 ?_
                                refine g_aload_n C dL_law_967 3 rfl rfl ?_
                                obtain ⟨r_110, m_110, hk_110, h⟩ := b2_some h
                                refine g_wI (As := [.ref (oa (gw Γ) 0), .int (xs (v5 + (1 : Int32)).toNatClampNeg), .ref (oa (gw Γ) 108)]) (mc' := 1) C dL_law_968 mf_L_loadOf k_1045 ⟨by decide, by decide⟩ rfl rfl (Nat.le_of_ble_eq_true rfl) (by omega) (c_L_loadOf N (gl Γ) C.2.2.2.2 (gw Γ) (xs (v5 + (1 : Int32)).toNatClampNeg) m _ hk_110) ?_
                                refine g_istore (lv' := [(6, .int r_110), (0, .ref b), (1, .ref (oa (gw Γ) 0)), (2, .ref (oa (gw Γ) 95)), (3, .ref (oa (gw Γ) 108)), (4, .ref (oa (gw Γ) 109)), (5, .int v5)]) C dL_law_971 (by decide) rfl ?_
                                refine g_aload_n C dL_law_973 3 rfl rfl ?_
                                refine g_aload_n C dL_law_974 1 rfl rfl ?_
                                refine g_iload C dL_law_975 6 rfl ?_
                                refine g_iconst (v := (1 : Int32)) C dL_law_977 (by decide) ?_
                                refine g_iadd C dL_law_978 ?_
                                refine g_sld C S dL_law_979 g_109 ?_
                                obtain ⟨r_111, m_111, hk_111, h⟩ := b2_some h
                                refine g_vI (As := [.int (xs (v5 + (1 : Int32)).toNatClampNeg)]) (a := 95) (ci := 10) C dL_law_980 mf_X10_loadOf k_1046 rfl (by decide) ⟨by decide, by decide⟩ rfl rfl (Nat.le_of_ble_eq_true rfl) (by omega) rfl (c_X10_loadOf N (gl Γ) C.2.2.2.2 (gw Γ) (xs (v5 + (1 : Int32)).toNatClampNeg) m_110 _ hk_111) ?_
                                refine g_istore (lv' := [(7, .int r_111), (6, .int r_110), (0, .ref b), (1, .ref (oa (gw Γ) 0)), (2, .ref (oa (gw Γ) 95)), (3, .ref (oa (gw Γ) 108)), (4, .ref (oa (gw Γ) 109)), (5, .int v5)]) C dL_law_983 (by decide) rfl ?_
                                refine g_aload_n C dL_law_985 4 rfl rfl ?_
                                obtain ⟨r_112, m_112, hk_112, h⟩ := b2_some h
                                refine g_vI (As := []) (a := 95) (ci := 10) C dL_law_986 mf_X10_thrown k_975 rfl (by decide) ⟨by decide, by decide⟩ rfl rfl (Nat.le_of_ble_eq_true rfl) (by omega) rfl (c_X10_thrown N (gl Γ) C.2.2.2.2 (gw Γ)  m_111 _ hk_112) ?_
                                refine g_iload C dL_law_989 1 rfl ?_
                                refine g_icmp_eq (tgt := 996) C dL_law_991 (by decide) (fun c_115 => ?_) (fun c_115 => ?_)
                                · replace h := it_t c_115 h
                                  refine g_iload C dL_law_996 1 rfl ?_
                                  refine g_if_ne (tgt := 1013) C dL_law_998 (by decide) (fun c_114 => ?_) (fun c_114 => ?_)
                                  · replace h := it_f c_114 h
                                    refine g_goto (tgt := 2281) C dL_law_1013 (by decide) ?_
                                    refine g_iinc (q := 7) (v := v5 + (6 : Int32)) (lv' := [(5, .int (v5 + (6 : Int32))), (7, .int r_111), (6, .int r_110), (0, .ref b), (1, .ref (oa (gw Γ) 0)), (2, .ref (oa (gw Γ) 95)), (3, .ref (oa (gw Γ) 108)), (4, .ref (oa (gw Γ) 109))]) C dL_law_2281 rfl rfl (by decide) rfl ?_
                                    refine g_goto (tgt := 28) C dL_law_2284 (by decide) ?_
                                    refine g_sub [3, 4, 5, 6, 7, 0] rfl ?_
                                    exact hrec (v5 + (6 : Int32)) m_112 _ (by omega) h
                                  · replace h := it_t c_114 h
                                    refine g_aload_n C dL_law_1001 5 rfl rfl ?_
                                    refine g_iconst (v := (0 : Int32)) C dL_law_1002 (by decide) ?_
                                    refine g_lald' (j := 0) C dL_law_1003 (okA_of rfl rfl (by decide)) (by decide) ?_
                                    refine g_iload C dL_law_1004 0 rfl ?_
                                    refine g_i2l C dL_law_1006 ?_
                                    refine g_lcmp C dL_law_1007 ?_
                                    refine g_if_eq (tgt := 1013) C dL_law_1008 (by decide) (fun c_113 => ?_) (fun c_113 => ?_)
                                    · replace h := it_t c_113 h
                                      refine g_goto (tgt := 2281) C dL_law_1013 (by decide) ?_
                                      refine g_iinc (q := 7) (v := v5 + (6 : Int32)) (lv' := [(5, .int (v5 + (6 : Int32))), (7, .int r_111), (6, .int r_110), (0, .ref b), (1, .ref (oa (gw Γ) 0)), (2, .ref (oa (gw Γ) 95)), (3, .ref (oa (gw Γ) 108)), (4, .ref (oa (gw Γ) 109))]) C dL_law_2281 rfl rfl (by decide) rfl ?_
                                      refine g_goto (tgt := 28) C dL_law_2284 (by decide) ?_
                                      refine g_sub [3, 4, 5, 6, 7, 0] rfl ?_
                                      exact hrec (v5 + (6 : Int32)) m_112 _ (by omega) h
                                    · replace h := it_f c_113 h
                                      cases h
                                · replace h := it_f c_115 h
                                  cases h
                              · replace h := it_f c_116 h
                                by_cases c_124 : ((xs v5.toNatClampNeg) &&& (63 : Int32)) = (14 : Int32)
                                · replace h := it_t c_124 h
                                  refine g_tin (tgt := 1016) (off := 971) C dL_law_45 (by rw [c_124]; decide) (by rw [c_124]; decide) (by rw [c_124]; rfl) (by decide) ?_
                                  refine g_aload_n C dL_law_1016 1 rfl rfl ?_
                                  refine g_aload_n C dL_law_1017 0 rfl rfl ?_
                                  refine g_iload C dL_law_1018 5 rfl ?_
                                  refine g_iconst (v := (1 : Int32)) C dL_law_1020 (by decide) ?_
                                  refine g_iadd C dL_law_1021 ?_
                                  obtain ⟨g_117, h⟩ := gd_some h
                                  refine g_sld C S dL_law_1022 g_117 ?_
                                  refine g_aload_n C dL_law_1023 3 rfl rfl ?_
                                  obtain ⟨r_118, m_118, hk_118, h⟩ := b2_some h
                                  refine g_wI (As := [.ref (oa (gw Γ) 0), .int (xs (v5 + (1 : Int32)).toNatClampNeg), .ref (oa (gw Γ) 108)]) (mc' := 1) C dL_law_1024 mf_L_matchSum k_1050 ⟨by decide, by decide⟩ rfl rfl (Nat.le_of_ble_eq_true rfl) (by omega) (c_L_matchSum N (gl Γ) C.2.2.2.2 (gw Γ) (xs (v5 + (1 : Int32)).toNatClampNeg) m _ hk_118) ?_
                                  refine g_istore (lv' := [(6, .int r_118), (0, .ref b), (1, .ref (oa (gw Γ) 0)), (2, .ref (oa (gw Γ) 95)), (3, .ref (oa (gw Γ) 108)), (4, .ref (oa (gw Γ) 109)), (5, .int v5)]) C dL_law_1027 (by decide) rfl ?_
                                  refine g_aload_n C dL_law_1029 3 rfl rfl ?_
                                  refine g_aload_n C dL_law_1030 1 rfl rfl ?_
                                  refine g_iload C dL_law_1031 6 rfl ?_
                                  refine g_iconst (v := (1 : Int32)) C dL_law_1033 (by decide) ?_
                                  refine g_iadd C dL_law_1034 ?_
                                  refine g_sld C S dL_law_1035 g_117 ?_
                                  obtain ⟨r_119, m_119, hk_119, h⟩ := b2_some h
                                  refine g_vI (As := [.int (xs (v5 + (1 : Int32)).toNatClampNeg)]) (a := 95) (ci := 10) C dL_law_1036 mf_X10_matchSum k_1051 rfl (by decide) ⟨by decide, by decide⟩ rfl rfl (Nat.le_of_ble_eq_true rfl) (by omega) rfl (c_X10_matchSum N (gl Γ) C.2.2.2.2 (gw Γ) (xs (v5 + (1 : Int32)).toNatClampNeg) m_118 _ hk_119) ?_
                                  refine g_istore (lv' := [(7, .int r_119), (6, .int r_118), (0, .ref b), (1, .ref (oa (gw Γ) 0)), (2, .ref (oa (gw Γ) 95)), (3, .ref (oa (gw Γ) 108)), (4, .ref (oa (gw Γ) 109)), (5, .int v5)]) C dL_law_1039 (by decide) rfl ?_
                                  refine g_aload_n C dL_law_1041 4 rfl rfl ?_
                                  obtain ⟨r_120, m_120, hk_120, h⟩ := b2_some h
                                  refine g_vI (As := []) (a := 95) (ci := 10) C dL_law_1042 mf_X10_thrown k_975 rfl (by decide) ⟨by decide, by decide⟩ rfl rfl (Nat.le_of_ble_eq_true rfl) (by omega) rfl (c_X10_thrown N (gl Γ) C.2.2.2.2 (gw Γ)  m_119 _ hk_120) ?_
                                  refine g_iload C dL_law_1045 1 rfl ?_
                                  refine g_icmp_eq (tgt := 1052) C dL_law_1047 (by decide) (fun c_123 => ?_) (fun c_123 => ?_)
                                  · replace h := it_t c_123 h
                                    refine g_iload C dL_law_1052 1 rfl ?_
                                    refine g_if_ne (tgt := 1069) C dL_law_1054 (by decide) (fun c_122 => ?_) (fun c_122 => ?_)
                                    · replace h := it_f c_122 h
                                      refine g_goto (tgt := 2281) C dL_law_1069 (by decide) ?_
                                      refine g_iinc (q := 7) (v := v5 + (6 : Int32)) (lv' := [(5, .int (v5 + (6 : Int32))), (7, .int r_119), (6, .int r_118), (0, .ref b), (1, .ref (oa (gw Γ) 0)), (2, .ref (oa (gw Γ) 95)), (3, .ref (oa (gw Γ) 108)), (4, .ref (oa (gw Γ) 109))]) C dL_law_2281 rfl rfl (by decide) rfl ?_
                                      refine g_goto (tgt := 28) C dL_law_2284 (by decide) ?_
                                      refine g_sub [3, 4, 5, 6, 7, 0] rfl ?_
                                      exact hrec (v5 + (6 : Int32)) m_120 _ (by omega) h
                                    · replace h := it_t c_122 h
                                      refine g_aload_n C dL_law_1057 5 rfl rfl ?_
                                      refine g_iconst (v := (0 : Int32)) C dL_law_1058 (by decide) ?_
                                      refine g_lald' (j := 0) C dL_law_1059 (okA_of rfl rfl (by decide)) (by decide) ?_
                                      refine g_iload C dL_law_1060 0 rfl ?_
                                      refine g_i2l C dL_law_1062 ?_
                                      refine g_lcmp C dL_law_1063 ?_
                                      refine g_if_eq (tgt := 1069) C dL_law_1064 (by decide) (fun c_121 => ?_) (fun c_121 => ?_)
                                      · replace h := it_t c_121 h
                                        refine g_goto (tgt := 2281) C dL_law_1069 (by decide) ?_
                                        refine g_iinc (q := 7) (v := v5 + (6 : Int32)) (lv' := [(5, .int (v5 + (6 : Int32))), (7, .int r_119), (6, .int r_118), (0, .ref b), (1, .ref (oa (gw Γ) 0)), (2, .ref (oa (gw Γ) 95)), (3, .ref (oa (gw Γ) 108)), (4, .ref (oa (gw Γ) 109))]) C dL_law_2281 rfl rfl (by decide) rfl ?_
                                        refine g_goto (tgt := 28) C dL_law_2284 (by decide) ?_
                                        refine g_sub [3, 4, 5, 6, 7, 0] rfl ?_
                                        exact hrec (v5 + (6 : Int32)) m_120 _ (by omega) h
                                      · replace h := it_f c_121 h
                                        cases h
                                  · replace h := it_f c_123 h
                                    cases h
                                · replace h := it_f c_124 h
                                  by_cases c_132 : ((xs v5.toNatClampNeg) &&& (63 : Int32)) = (15 : Int32)
                                  · replace h := it_t c_132 h
                                    refine g_tin (tgt := 1072) (off := 1027) C dL_law_45 (by rw [c_132]; decide) (by rw [c_132]; decide) (by rw [c_132]; rfl) (by decide) ?_
                                    refine g_aload_n C dL_law_1072 1 rfl rfl ?_
                                    refine g_aload_n C dL_law_1073 0 rfl rfl ?_
                                    refine g_iload C dL_law_1074 5 rfl ?_
                                    refine g_iconst (v := (1 : Int32)) C dL_law_1076 (by decide) ?_
                                    refine g_iadd C dL_law_1077 ?_
                                    obtain ⟨g_125, h⟩ := gd_some h
                                    refine g_sld C S dL_law_1078 g_125 ?_
                                    refine g_aload_n C dL_law_1079 3 rfl rfl ?_
                                    obtain ⟨r_126, m_126, hk_126, h⟩ := b2_some h
                                    refine g_wI (As := [.ref (oa (gw Γ) 0), .int (xs (v5 + (1 : Int32)).toNatClampNeg), .ref (oa (gw Γ) 108)]) (mc' := 1) C dL_law_1080 mf_L_mostReviews k_1055 ⟨by decide, by decide⟩ rfl rfl (Nat.le_of_ble_eq_true rfl) (by omega) (c_L_mostReviews N (gl Γ) C.2.2.2.2 (gw Γ) (xs (v5 + (1 : Int32)).toNatClampNeg) m _ hk_126) ?_
                                    refine g_istore (lv' := [(6, .int r_126), (0, .ref b), (1, .ref (oa (gw Γ) 0)), (2, .ref (oa (gw Γ) 95)), (3, .ref (oa (gw Γ) 108)), (4, .ref (oa (gw Γ) 109)), (5, .int v5)]) C dL_law_1083 (by decide) rfl ?_
                                    refine g_aload_n C dL_law_1085 3 rfl rfl ?_
                                    refine g_aload_n C dL_law_1086 1 rfl rfl ?_
                                    refine g_iload C dL_law_1087 6 rfl ?_
                                    refine g_iconst (v := (1 : Int32)) C dL_law_1089 (by decide) ?_
                                    refine g_iadd C dL_law_1090 ?_
                                    refine g_sld C S dL_law_1091 g_125 ?_
                                    obtain ⟨r_127, m_127, hk_127, h⟩ := b2_some h
                                    refine g_vI (As := [.int (xs (v5 + (1 : Int32)).toNatClampNeg)]) (a := 95) (ci := 10) C dL_law_1092 mf_X10_mostReviews k_1056 rfl (by decide) ⟨by decide, by decide⟩ rfl rfl (Nat.le_of_ble_eq_true rfl) (by omega) rfl (c_X10_mostReviews N (gl Γ) C.2.2.2.2 (gw Γ) (xs (v5 + (1 : Int32)).toNatClampNeg) m_126 _ hk_127) ?_
                                    refine g_istore (lv' := [(7, .int r_127), (6, .int r_126), (0, .ref b), (1, .ref (oa (gw Γ) 0)), (2, .ref (oa (gw Γ) 95)), (3, .ref (oa (gw Γ) 108)), (4, .ref (oa (gw Γ) 109)), (5, .int v5)]) C dL_law_1095 (by decide) rfl ?_
                                    refine g_aload_n C dL_law_1097 4 rfl rfl ?_
                                    obtain ⟨r_128, m_128, hk_128, h⟩ := b2_some h
                                    refine g_vI (As := []) (a := 95) (ci := 10) C dL_law_1098 mf_X10_thrown k_975 rfl (by decide) ⟨by decide, by decide⟩ rfl rfl (Nat.le_of_ble_eq_true rfl) (by omega) rfl (c_X10_thrown N (gl Γ) C.2.2.2.2 (gw Γ)  m_127 _ hk_128) ?_
                                    refine g_iload C dL_law_1101 1 rfl ?_
                                    refine g_icmp_eq (tgt := 1108) C dL_law_1103 (by decide) (fun c_131 => ?_) (fun c_131 => ?_)
                                    · replace h := it_t c_131 h
                                      refine g_iload C dL_law_1108 1 rfl ?_
                                      refine g_if_ne (tgt := 1125) C dL_law_1110 (by decide) (fun c_130 => ?_) (fun c_130 => ?_)
                                      · replace h := it_f c_130 h
                                        refine g_goto (tgt := 2281) C dL_law_1125 (by decide) ?_
                                        refine g_iinc (q := 7) (v := v5 + (6 : Int32)) (lv' := [(5, .int (v5 + (6 : Int32))), (7, .int r_127), (6, .int r_126), (0, .ref b), (1, .ref (oa (gw Γ) 0)), (2, .ref (oa (gw Γ) 95)), (3, .ref (oa (gw Γ) 108)), (4, .ref (oa (gw Γ) 109))]) C dL_law_2281 rfl rfl (by decide) rfl ?_
                                        refine g_goto (tgt := 28) C dL_law_2284 (by decide) ?_
                                        refine g_sub [3, 4, 5, 6, 7, 0] rfl ?_
                                        exact hrec (v5 + (6 : Int32)) m_128 _ (by omega) h
                                      · replace h := it_t c_130 h
                                        refine g_aload_n C dL_law_1113 5 rfl rfl ?_
                                        refine g_iconst (v := (0 : Int32)) C dL_law_1114 (by decide) ?_
                                        refine g_lald' (j := 0) C dL_law_1115 (okA_of rfl rfl (by decide)) (by decide) ?_
                                        refine g_iload C dL_law_1116 0 rfl ?_
                                        refine g_i2l C dL_law_1118 ?_
                                        refine g_lcmp C dL_law_1119 ?_
                                        refine g_if_eq (tgt := 1125) C dL_law_1120 (by decide) (fun c_129 => ?_) (fun c_129 => ?_)
                                        · replace h := it_t c_129 h
                                          refine g_goto (tgt := 2281) C dL_law_1125 (by decide) ?_
                                          refine g_iinc (q := 7) (v := v5 + (6 : Int32)) (lv' := [(5, .int (v5 + (6 : Int32))), (7, .int r_127), (6, .int r_126), (0, .ref b), (1, .ref (oa (gw Γ) 0)), (2, .ref (oa (gw Γ) 95)), (3, .ref (oa (gw Γ) 108)), (4, .ref (oa (gw Γ) 109))]) C dL_law_2281 rfl rfl (by decide) rfl ?_
                                          refine g_goto (tgt := 28) C dL_law_2284 (by decide) ?_
                                          refine g_sub [3, 4, 5, 6, 7, 0] rfl ?_
                                          exact hrec (v5 + (6 : Int32)) m_128 _ (by omega) h
                                        · replace h := it_f c_129 h
                                          cases h
                                    · replace h := it_f c_131 h
                                      cases h
                                  · replace h := it_f c_132 h
                                    by_cases c_140 : ((xs v5.toNatClampNeg) &&& (63 : Int32)) = (16 : Int32)
                                    · replace h := it_t c_140 h
                                      refine g_tin (tgt := 1128) (off := 1083) C dL_law_45 (by rw [c_140]; decide) (by rw [c_140]; decide) (by rw [c_140]; rfl) (by decide) ?_
                                      refine g_aload_n C dL_law_1128 1 rfl rfl ?_
                                      refine g_aload_n C dL_law_1129 0 rfl rfl ?_
                                      refine g_iload C dL_law_1130 5 rfl ?_
                                      refine g_iconst (v := (1 : Int32)) C dL_law_1132 (by decide) ?_
                                      refine g_iadd C dL_law_1133 ?_
                                      obtain ⟨g_133, h⟩ := gd_some h
                                      refine g_sld C S dL_law_1134 g_133 ?_
                                      refine g_aload_n C dL_law_1135 3 rfl rfl ?_
                                      obtain ⟨r_134, m_134, hk_134, h⟩ := b2_some h
                                      refine g_wI (As := [.ref (oa (gw Γ) 0), .int (xs (v5 + (1 : Int32)).toNatClampNeg), .ref (oa (gw Γ) 108)]) (mc' := 1) C dL_law_1136 mf_L_bestMatchSum k_1060 ⟨by decide, by decide⟩ rfl rfl (Nat.le_of_ble_eq_true rfl) (by omega) (c_L_bestMatchSum N (gl Γ) C.2.2.2.2 (gw Γ) (xs (v5 + (1 : Int32)).toNatClampNeg) m _ hk_134) ?_
                                      refine g_istore (lv' := [(6, .int r_134), (0, .ref b), (1, .ref (oa (gw Γ) 0)), (2, .ref (oa (gw Γ) 95)), (3, .ref (oa (gw Γ) 108)), (4, .ref (oa (gw Γ) 109)), (5, .int v5)]) C dL_law_1139 (by decide) rfl ?_
                                      refine g_aload_n C dL_law_1141 3 rfl rfl ?_
                                      refine g_aload_n C dL_law_1142 1 rfl rfl ?_
                                      refine g_iload C dL_law_1143 6 rfl ?_
                                      refine g_iconst (v := (1 : Int32)) C dL_law_1145 (by decide) ?_
                                      refine g_iadd C dL_law_1146 ?_
                                      refine g_sld C S dL_law_1147 g_133 ?_
                                      obtain ⟨r_135, m_135, hk_135, h⟩ := b2_some h
                                      refine g_vI (As := [.int (xs (v5 + (1 : Int32)).toNatClampNeg)]) (a := 95) (ci := 10) C dL_law_1148 mf_X10_bestMatchSum k_1061 rfl (by decide) ⟨by decide, by decide⟩ rfl rfl (Nat.le_of_ble_eq_true rfl) (by omega) rfl (c_X10_bestMatchSum N (gl Γ) C.2.2.2.2 (gw Γ) (xs (v5 + (1 : Int32)).toNatClampNeg) m_134 _ hk_135) ?_
                                      refine g_istore (lv' := [(7, .int r_135), (6, .int r_134), (0, .ref b), (1, .ref (oa (gw Γ) 0)), (2, .ref (oa (gw Γ) 95)), (3, .ref (oa (gw Γ) 108)), (4, .ref (oa (gw Γ) 109)), (5, .int v5)]) C dL_law_1151 (by decide) rfl ?_
                                      refine g_aload_n C dL_law_1153 4 rfl rfl ?_
                                      obtain ⟨r_136, m_136, hk_136, h⟩ := b2_some h
                                      refine g_vI (As := []) (a := 95) (ci := 10) C dL_law_1154 mf_X10_thrown k_975 rfl (by decide) ⟨by decide, by decide⟩ rfl rfl (Nat.le_of_ble_eq_true rfl) (by omega) rfl (c_X10_thrown N (gl Γ) C.2.2.2.2 (gw Γ)  m_135 _ hk_136) ?_
                                      refine g_iload C dL_law_1157 1 rfl ?_
                                      refine g_icmp_eq (tgt := 1164) C dL_law_1159 (by decide) (fun c_139 => ?_) (fun c_139 => ?_)
                                      · replace h := it_t c_139 h
                                        refine g_iload C dL_law_1164 1 rfl ?_
                                        refine g_if_ne (tgt := 1181) C dL_law_1166 (by decide) (fun c_138 => ?_) (fun c_138 => ?_)
                                        · replace h := it_f c_138 h
                                          refine g_goto (tgt := 2281) C dL_law_1181 (by decide) ?_
                                          refine g_iinc (q := 7) (v := v5 + (6 : Int32)) (lv' := [(5, .int (v5 + (6 : Int32))), (7, .int r_135), (6, .int r_134), (0, .ref b), (1, .ref (oa (gw Γ) 0)), (2, .ref (oa (gw Γ) 95)), (3, .ref (oa (gw Γ) 108)), (4, .ref (oa (gw Γ) 109))]) C dL_law_2281 rfl rfl (by decide) rfl ?_
                                          refine g_goto (tgt := 28) C dL_law_2284 (by decide) ?_
                                          refine g_sub [3, 4, 5, 6, 7, 0] rfl ?_
                                          exact hrec (v5 + (6 : Int32)) m_136 _ (by omega) h
                                        · replace h := it_t c_138 h
                                          refine g_aload_n C dL_law_1169 5 rfl rfl ?_
                                          refine g_iconst (v := (0 : Int32)) C dL_law_1170 (by decide) ?_
                                          refine g_lald' (j := 0) C dL_law_1171 (okA_of rfl rfl (by decide)) (by decide) ?_
                                          refine g_iload C dL_law_1172 0 rfl ?_
                                          refine g_i2l C dL_law_1174 ?_
                                          refine g_lcmp C dL_law_1175 ?_
                                          refine g_if_eq (tgt := 1181) C dL_law_1176 (by decide) (fun c_137 => ?_) (fun c_137 => ?_)
                                          · replace h := it_t c_137 h
                                            refine g_goto (tgt := 2281) C dL_law_1181 (by decide) ?_
                                            refine g_iinc (q := 7) (v := v5 + (6 : Int32)) (lv' := [(5, .int (v5 + (6 : Int32))), (7, .int r_135), (6, .int r_134), (0, .ref b), (1, .ref (oa (gw Γ) 0)), (2, .ref (oa (gw Γ) 95)), (3, .ref (oa (gw Γ) 108)), (4, .ref (oa (gw Γ) 109))]) C dL_law_2281 rfl rfl (by decide) rfl ?_
                                            refine g_goto (tgt := 28) C dL_law_2284 (by decide) ?_
                                            refine g_sub [3, 4, 5, 6, 7, 0] rfl ?_
                                            exact hrec (v5 + (6 : Int32)) m_136 _ (by omega) h
                                          · replace h := it_f c_137 h
                                            cases h
                                      · replace h := it_f c_139 h
                                        cases h
                                    · replace h := it_f c_140 h
                                      by_cases c_150 : ((xs v5.toNatClampNeg) &&& (63 : Int32)) = (17 : Int32)
                                      · replace h := it_t c_150 h
                                        refine g_tin (tgt := 1184) (off := 1139) C dL_law_45 (by rw [c_150]; decide) (by rw [c_150]; decide) (by rw [c_150]; rfl) (by decide) ?_
                                        refine g_aload_n C dL_law_1184 1 rfl rfl ?_
                                        refine g_aload_n C dL_law_1185 0 rfl rfl ?_
                                        refine g_iload C dL_law_1186 5 rfl ?_
                                        refine g_iconst (v := (1 : Int32)) C dL_law_1188 (by decide) ?_
                                        refine g_iadd C dL_law_1189 ?_
                                        obtain ⟨g_141, h⟩ := gd_some h
                                        refine g_sld C S dL_law_1190 g_141 ?_
                                        refine g_aload_n C dL_law_1191 0 rfl rfl ?_
                                        refine g_iload C dL_law_1192 5 rfl ?_
                                        refine g_iconst (v := (2 : Int32)) C dL_law_1194 (by decide) ?_
                                        refine g_iadd C dL_law_1195 ?_
                                        obtain ⟨g_142, h⟩ := gd_some h
                                        refine g_sld C S dL_law_1196 g_142 ?_
                                        refine g_aload_n C dL_law_1197 0 rfl rfl ?_
                                        refine g_iload C dL_law_1198 5 rfl ?_
                                        refine g_iconst (v := (3 : Int32)) C dL_law_1200 (by decide) ?_
                                        refine g_iadd C dL_law_1201 ?_
                                        obtain ⟨g_143, h⟩ := gd_some h
                                        refine g_sld C S dL_law_1202 g_143 ?_
                                        refine g_aload_n C dL_law_1203 3 rfl rfl ?_
                                        obtain ⟨r_144, m_144, hk_144, h⟩ := b2_some h
                                        refine g_wI (As := [.ref (oa (gw Γ) 0), .int (xs (v5 + (1 : Int32)).toNatClampNeg), .int (xs (v5 + (2 : Int32)).toNatClampNeg), .int (xs (v5 + (3 : Int32)).toNatClampNeg), .ref (oa (gw Γ) 108)]) (mc' := 3) C dL_law_1204 mf_L_setScore k_1065 ⟨by decide, by decide⟩ rfl rfl (Nat.le_of_ble_eq_true rfl) (by omega) (c_L_setScore N (gl Γ) C.2.2.2.2 (gw Γ) (xs (v5 + (1 : Int32)).toNatClampNeg) (xs (v5 + (2 : Int32)).toNatClampNeg) (xs (v5 + (3 : Int32)).toNatClampNeg) m _ hk_144) ?_
                                        refine g_istore (lv' := [(6, .int r_144), (0, .ref b), (1, .ref (oa (gw Γ) 0)), (2, .ref (oa (gw Γ) 95)), (3, .ref (oa (gw Γ) 108)), (4, .ref (oa (gw Γ) 109)), (5, .int v5)]) C dL_law_1207 (by decide) rfl ?_
                                        refine g_aload_n C dL_law_1209 3 rfl rfl ?_
                                        refine g_aload_n C dL_law_1210 1 rfl rfl ?_
                                        refine g_iload C dL_law_1211 6 rfl ?_
                                        refine g_iconst (v := (1 : Int32)) C dL_law_1213 (by decide) ?_
                                        refine g_iadd C dL_law_1214 ?_
                                        refine g_sld C S dL_law_1215 g_141 ?_
                                        refine g_aload_n C dL_law_1216 1 rfl rfl ?_
                                        refine g_iload C dL_law_1217 6 rfl ?_
                                        refine g_iconst (v := (2 : Int32)) C dL_law_1219 (by decide) ?_
                                        refine g_iadd C dL_law_1220 ?_
                                        refine g_sld C S dL_law_1221 g_142 ?_
                                        refine g_aload_n C dL_law_1222 1 rfl rfl ?_
                                        refine g_iload C dL_law_1223 6 rfl ?_
                                        refine g_iconst (v := (3 : Int32)) C dL_law_1225 (by decide) ?_
                                        refine g_iadd C dL_law_1226 ?_
                                        refine g_sld C S dL_law_1227 g_143 ?_
                                        obtain ⟨r_145, m_145, hk_145, h⟩ := b2_some h
                                        refine g_vI (As := [.int (xs (v5 + (1 : Int32)).toNatClampNeg), .int (xs (v5 + (2 : Int32)).toNatClampNeg), .int (xs (v5 + (3 : Int32)).toNatClampNeg)]) (a := 95) (ci := 10) C dL_law_1228 mf_X10_setScore k_1066 rfl (by decide) ⟨by decide, by decide⟩ rfl rfl (Nat.le_of_ble_eq_true rfl) (by omega) rfl (c_X10_setScore N (gl Γ) C.2.2.2.2 (gw Γ) (xs (v5 + (1 : Int32)).toNatClampNeg) (xs (v5 + (2 : Int32)).toNatClampNeg) (xs (v5 + (3 : Int32)).toNatClampNeg) m_144 _ hk_145) ?_
                                        refine g_istore (lv' := [(7, .int r_145), (6, .int r_144), (0, .ref b), (1, .ref (oa (gw Γ) 0)), (2, .ref (oa (gw Γ) 95)), (3, .ref (oa (gw Γ) 108)), (4, .ref (oa (gw Γ) 109)), (5, .int v5)]) C dL_law_1231 (by decide) rfl ?_
                                        refine g_aload_n C dL_law_1233 4 rfl rfl ?_
                                        obtain ⟨r_146, m_146, hk_146, h⟩ := b2_some h
                                        refine g_vI (As := []) (a := 95) (ci := 10) C dL_law_1234 mf_X10_thrown k_975 rfl (by decide) ⟨by decide, by decide⟩ rfl rfl (Nat.le_of_ble_eq_true rfl) (by omega) rfl (c_X10_thrown N (gl Γ) C.2.2.2.2 (gw Γ)  m_145 _ hk_146) ?_
                                        refine g_iload C dL_law_1237 1 rfl ?_
                                        refine g_icmp_eq (tgt := 1244) C dL_law_1239 (by decide) (fun c_149 => ?_) (fun c_149 => ?_)
                                        · replace h := it_t c_149 h
                                          refine g_iload C dL_law_1244 1 rfl ?_
                                          refine g_if_ne (tgt := 1261) C dL_law_1246 (by decide) (fun c_148 => ?_) (fun c_148 => ?_)
                                          · replace h := it_f c_148 h
                                            refine g_goto (tgt := 2281) C dL_law_1261 (by decide) ?_
                                            refine g_iinc (q := 7) (v := v5 + (6 : Int32)) (lv' := [(5, .int (v5 + (6 : Int32))), (7, .int r_145), (6, .int r_144), (0, .ref b), (1, .ref (oa (gw Γ) 0)), (2, .ref (oa (gw Γ) 95)), (3, .ref (oa (gw Γ) 108)), (4, .ref (oa (gw Γ) 109))]) C dL_law_2281 rfl rfl (by decide) rfl ?_
                                            refine g_goto (tgt := 28) C dL_law_2284 (by decide) ?_
                                            refine g_sub [3, 4, 5, 6, 7, 0] rfl ?_
                                            exact hrec (v5 + (6 : Int32)) m_146 _ (by omega) h
                                          · replace h := it_t c_148 h
                                            refine g_aload_n C dL_law_1249 5 rfl rfl ?_
                                            refine g_iconst (v := (0 : Int32)) C dL_law_1250 (by decide) ?_
                                            refine g_lald' (j := 0) C dL_law_1251 (okA_of rfl rfl (by decide)) (by decide) ?_
                                            refine g_iload C dL_law_1252 0 rfl ?_
                                            refine g_i2l C dL_law_1254 ?_
                                            refine g_lcmp C dL_law_1255 ?_
                                            refine g_if_eq (tgt := 1261) C dL_law_1256 (by decide) (fun c_147 => ?_) (fun c_147 => ?_)
                                            · replace h := it_t c_147 h
                                              refine g_goto (tgt := 2281) C dL_law_1261 (by decide) ?_
                                              refine g_iinc (q := 7) (v := v5 + (6 : Int32)) (lv' := [(5, .int (v5 + (6 : Int32))), (7, .int r_145), (6, .int r_144), (0, .ref b), (1, .ref (oa (gw Γ) 0)), (2, .ref (oa (gw Γ) 95)), (3, .ref (oa (gw Γ) 108)), (4, .ref (oa (gw Γ) 109))]) C dL_law_2281 rfl rfl (by decide) rfl ?_
                                              refine g_goto (tgt := 28) C dL_law_2284 (by decide) ?_
                                              refine g_sub [3, 4, 5, 6, 7, 0] rfl ?_
                                              exact hrec (v5 + (6 : Int32)) m_146 _ (by omega) h
                                            · replace h := it_f c_147 h
                                              cases h
                                        · replace h := it_f c_149 h
                                          cases h
                                      · replace h := it_f c_150 h
                                        by_cases c_159 : ((xs v5.toNatClampNeg) &&& (63 : Int32)) = (18 : Int32)
                                        · replace h := it_t c_159 h
                                          refine g_tin (tgt := 1264) (off := 1219) C dL_law_45 (by rw [c_159]; decide) (by rw [c_159]; decide) (by rw [c_159]; rfl) (by decide) ?_
                                          refine g_aload_n C dL_law_1264 1 rfl rfl ?_
                                          refine g_aload_n C dL_law_1265 0 rfl rfl ?_
                                          refine g_iload C dL_law_1266 5 rfl ?_
                                          refine g_iconst (v := (1 : Int32)) C dL_law_1268 (by decide) ?_
                                          refine g_iadd C dL_law_1269 ?_
                                          obtain ⟨g_151, h⟩ := gd_some h
                                          refine g_sld C S dL_law_1270 g_151 ?_
                                          refine g_aload_n C dL_law_1271 0 rfl rfl ?_
                                          refine g_iload C dL_law_1272 5 rfl ?_
                                          refine g_iconst (v := (2 : Int32)) C dL_law_1274 (by decide) ?_
                                          refine g_iadd C dL_law_1275 ?_
                                          obtain ⟨g_152, h⟩ := gd_some h
                                          refine g_sld C S dL_law_1276 g_152 ?_
                                          refine g_aload_n C dL_law_1277 3 rfl rfl ?_
                                          obtain ⟨r_153, m_153, hk_153, h⟩ := b2_some h
                                          refine g_wI (As := [.ref (oa (gw Γ) 0), .int (xs (v5 + (1 : Int32)).toNatClampNeg), .int (xs (v5 + (2 : Int32)).toNatClampNeg), .ref (oa (gw Γ) 108)]) (mc' := 3) C dL_law_1278 mf_L_adjusted k_1070 ⟨by decide, by decide⟩ rfl rfl (Nat.le_of_ble_eq_true rfl) (by omega) (c_L_adjusted N (gl Γ) C.2.2.2.2 (gw Γ) (xs (v5 + (1 : Int32)).toNatClampNeg) (xs (v5 + (2 : Int32)).toNatClampNeg) m _ hk_153) ?_
                                          refine g_istore (lv' := [(6, .int r_153), (0, .ref b), (1, .ref (oa (gw Γ) 0)), (2, .ref (oa (gw Γ) 95)), (3, .ref (oa (gw Γ) 108)), (4, .ref (oa (gw Γ) 109)), (5, .int v5)]) C dL_law_1281 (by decide) rfl ?_
                                          refine g_aload_n C dL_law_1283 3 rfl rfl ?_
                                          refine g_aload_n C dL_law_1284 1 rfl rfl ?_
                                          refine g_iload C dL_law_1285 6 rfl ?_
                                          refine g_iconst (v := (1 : Int32)) C dL_law_1287 (by decide) ?_
                                          refine g_iadd C dL_law_1288 ?_
                                          refine g_sld C S dL_law_1289 g_151 ?_
                                          refine g_aload_n C dL_law_1290 1 rfl rfl ?_
                                          refine g_iload C dL_law_1291 6 rfl ?_
                                          refine g_iconst (v := (2 : Int32)) C dL_law_1293 (by decide) ?_
                                          refine g_iadd C dL_law_1294 ?_
                                          refine g_sld C S dL_law_1295 g_152 ?_
                                          obtain ⟨r_154, m_154, hk_154, h⟩ := b2_some h
                                          refine g_vI (As := [.int (xs (v5 + (1 : Int32)).toNatClampNeg), .int (xs (v5 + (2 : Int32)).toNatClampNeg)]) (a := 95) (ci := 10) C dL_law_1296 mf_X10_adjusted k_1071 rfl (by decide) ⟨by decide, by decide⟩ rfl rfl (Nat.le_of_ble_eq_true rfl) (by omega) rfl (c_X10_adjusted N (gl Γ) C.2.2.2.2 (gw Γ) (xs (v5 + (1 : Int32)).toNatClampNeg) (xs (v5 + (2 : Int32)).toNatClampNeg) m_153 _ hk_154) ?_
                                          refine g_istore (lv' := [(7, .int r_154), (6, .int r_153), (0, .ref b), (1, .ref (oa (gw Γ) 0)), (2, .ref (oa (gw Γ) 95)), (3, .ref (oa (gw Γ) 108)), (4, .ref (oa (gw Γ) 109)), (5, .int v5)]) C dL_law_1299 (by decide) rfl ?_
                                          refine g_aload_n C dL_law_1301 4 rfl rfl ?_
                                          obtain ⟨r_155, m_155, hk_155, h⟩ := b2_some h
                                          refine g_vI (As := []) (a := 95) (ci := 10) C dL_law_1302 mf_X10_thrown k_975 rfl (by decide) ⟨by decide, by decide⟩ rfl rfl (Nat.le_of_ble_eq_true rfl) (by omega) rfl (c_X10_thrown N (gl Γ) C.2.2.2.2 (gw Γ)  m_154 _ hk_155) ?_
                                          refine g_iload C dL_law_1305 1 rfl ?_
                                          refine g_icmp_eq (tgt := 1312) C dL_law_1307 (by decide) (fun c_158 => ?_) (fun c_158 => ?_)
                                          · replace h := it_t c_158 h
                                            refine g_iload C dL_law_1312 1 rfl ?_
                                            refine g_if_ne (tgt := 1329) C dL_law_1314 (by decide) (fun c_157 => ?_) (fun c_157 => ?_)
                                            · replace h := it_f c_157 h
                                              refine g_goto (tgt := 2281) C dL_law_1329 (by decide) ?_
                                              refine g_iinc (q := 7) (v := v5 + (6 : Int32)) (lv' := [(5, .int (v5 + (6 : Int32))), (7, .int r_154), (6, .int r_153), (0, .ref b), (1, .ref (oa (gw Γ) 0)), (2, .ref (oa (gw Γ) 95)), (3, .ref (oa (gw Γ) 108)), (4, .ref (oa (gw Γ) 109))]) C dL_law_2281 rfl rfl (by decide) rfl ?_
                                              refine g_goto (tgt := 28) C dL_law_2284 (by decide) ?_
                                              refine g_sub [3, 4, 5, 6, 7, 0] rfl ?_
                                              exact hrec (v5 + (6 : Int32)) m_155 _ (by omega) h
                                            · replace h := it_t c_157 h
                                              refine g_aload_n C dL_law_1317 5 rfl rfl ?_
                                              refine g_iconst (v := (0 : Int32)) C dL_law_1318 (by decide) ?_
                                              refine g_lald' (j := 0) C dL_law_1319 (okA_of rfl rfl (by decide)) (by decide) ?_
                                              refine g_iload C dL_law_1320 0 rfl ?_
                                              refine g_i2l C dL_law_1322 ?_
                                              refine g_lcmp C dL_law_1323 ?_
                                              refine g_if_eq (tgt := 1329) C dL_law_1324 (by decide) (fun c_156 => ?_) (fun c_156 => ?_)
                                              · replace h := it_t c_156 h
                                                refine g_goto (tgt := 2281) C dL_law_1329 (by decide) ?_
                                                refine g_iinc (q := 7) (v := v5 + (6 : Int32)) (lv' := [(5, .int (v5 + (6 : Int32))), (7, .int r_154), (6, .int r_153), (0, .ref b), (1, .ref (oa (gw Γ) 0)), (2, .ref (oa (gw Γ) 95)), (3, .ref (oa (gw Γ) 108)), (4, .ref (oa (gw Γ) 109))]) C dL_law_2281 rfl rfl (by decide) rfl ?_
                                                refine g_goto (tgt := 28) C dL_law_2284 (by decide) ?_
                                                refine g_sub [3, 4, 5, 6, 7, 0] rfl ?_
                                                exact hrec (v5 + (6 : Int32)) m_155 _ (by omega) h
                                              · replace h := it_f c_156 h
                                                cases h
                                          · replace h := it_f c_158 h
                                            cases h
                                        · replace h := it_f c_159 h
                                          by_cases c_167 : ((xs v5.toNatClampNeg) &&& (63 : Int32)) = (19 : Int32)
                                          · replace h := it_t c_167 h
                                            refine g_tin (tgt := 1332) (off := 1287) C dL_law_45 (by rw [c_167]; decide) (by rw [c_167]; decide) (by rw [c_167]; rfl) (by decide) ?_
                                            refine g_aload_n C dL_law_1332 1 rfl rfl ?_
                                            refine g_aload_n C dL_law_1333 0 rfl rfl ?_
                                            refine g_iload C dL_law_1334 5 rfl ?_
                                            refine g_iconst (v := (1 : Int32)) C dL_law_1336 (by decide) ?_
                                            refine g_iadd C dL_law_1337 ?_
                                            obtain ⟨g_160, h⟩ := gd_some h
                                            refine g_sld C S dL_law_1338 g_160 ?_
                                            refine g_aload_n C dL_law_1339 3 rfl rfl ?_
                                            obtain ⟨r_161, m_161, hk_161, h⟩ := b2_some h
                                            refine g_wI (As := [.ref (oa (gw Γ) 0), .int (xs (v5 + (1 : Int32)).toNatClampNeg), .ref (oa (gw Γ) 108)]) (mc' := 2) C dL_law_1340 mf_L_normalized k_1075 ⟨by decide, by decide⟩ rfl rfl (Nat.le_of_ble_eq_true rfl) (by omega) (c_L_normalized N (gl Γ) C.2.2.2.2 (gw Γ) (xs (v5 + (1 : Int32)).toNatClampNeg) m _ hk_161) ?_
                                            refine g_istore (lv' := [(6, .int r_161), (0, .ref b), (1, .ref (oa (gw Γ) 0)), (2, .ref (oa (gw Γ) 95)), (3, .ref (oa (gw Γ) 108)), (4, .ref (oa (gw Γ) 109)), (5, .int v5)]) C dL_law_1343 (by decide) rfl ?_
                                            refine g_aload_n C dL_law_1345 3 rfl rfl ?_
                                            refine g_aload_n C dL_law_1346 1 rfl rfl ?_
                                            refine g_iload C dL_law_1347 6 rfl ?_
                                            refine g_iconst (v := (1 : Int32)) C dL_law_1349 (by decide) ?_
                                            refine g_iadd C dL_law_1350 ?_
                                            refine g_sld C S dL_law_1351 g_160 ?_
                                            obtain ⟨r_162, m_162, hk_162, h⟩ := b2_some h
                                            refine g_vI (As := [.int (xs (v5 + (1 : Int32)).toNatClampNeg)]) (a := 95) (ci := 10) C dL_law_1352 mf_X10_normalized k_1076 rfl (by decide) ⟨by decide, by decide⟩ rfl rfl (Nat.le_of_ble_eq_true rfl) (by omega) rfl (c_X10_normalized N (gl Γ) C.2.2.2.2 (gw Γ) (xs (v5 + (1 : Int32)).toNatClampNeg) m_161 _ hk_162) ?_
                                            refine g_istore (lv' := [(7, .int r_162), (6, .int r_161), (0, .ref b), (1, .ref (oa (gw Γ) 0)), (2, .ref (oa (gw Γ) 95)), (3, .ref (oa (gw Γ) 108)), (4, .ref (oa (gw Γ) 109)), (5, .int v5)]) C dL_law_1355 (by decide) rfl ?_
                                            refine g_aload_n C dL_law_1357 4 rfl rfl ?_
                                            obtain ⟨r_163, m_163, hk_163, h⟩ := b2_some h
                                            refine g_vI (As := []) (a := 95) (ci := 10) C dL_law_1358 mf_X10_thrown k_975 rfl (by decide) ⟨by decide, by decide⟩ rfl rfl (Nat.le_of_ble_eq_true rfl) (by omega) rfl (c_X10_thrown N (gl Γ) C.2.2.2.2 (gw Γ)  m_162 _ hk_163) ?_
                                            refine g_iload C dL_law_1361 1 rfl ?_
                                            refine g_icmp_eq (tgt := 1368) C dL_law_1363 (by decide) (fun c_166 => ?_) (fun c_166 => ?_)
                                            · replace h := it_t c_166 h
                                              refine g_iload C dL_law_1368 1 rfl ?_
                                              refine g_if_ne (tgt := 1385) C dL_law_1370 (by decide) (fun c_165 => ?_) (fun c_165 => ?_)
                                              · replace h := it_f c_165 h
                                                refine g_goto (tgt := 2281) C dL_law_1385 (by decide) ?_
                                                refine g_iinc (q := 7) (v := v5 + (6 : Int32)) (lv' := [(5, .int (v5 + (6 : Int32))), (7, .int r_162), (6, .int r_161), (0, .ref b), (1, .ref (oa (gw Γ) 0)), (2, .ref (oa (gw Γ) 95)), (3, .ref (oa (gw Γ) 108)), (4, .ref (oa (gw Γ) 109))]) C dL_law_2281 rfl rfl (by decide) rfl ?_
                                                refine g_goto (tgt := 28) C dL_law_2284 (by decide) ?_
                                                refine g_sub [3, 4, 5, 6, 7, 0] rfl ?_
                                                exact hrec (v5 + (6 : Int32)) m_163 _ (by omega) h
                                              · replace h := it_t c_165 h
                                                refine g_aload_n C dL_law_1373 5 rfl rfl ?_
                                                refine g_iconst (v := (0 : Int32)) C dL_law_1374 (by decide) ?_
                                                refine g_lald' (j := 0) C dL_law_1375 (okA_of rfl rfl (by decide)) (by decide) ?_
                                                refine g_iload C dL_law_1376 0 rfl ?_
                                                refine g_i2l C dL_law_1378 ?_
                                                refine g_lcmp C dL_law_1379 ?_
                                                refine g_if_eq (tgt := 1385) C dL_law_1380 (by decide) (fun c_164 => ?_) (fun c_164 => ?_)
                                                · replace h := it_t c_164 h
                                                  refine g_goto (tgt := 2281) C dL_law_1385 (by decide) ?_
                                                  refine g_iinc (q := 7) (v := v5 + (6 : Int32)) (lv' := [(5, .int (v5 + (6 : Int32))), (7, .int r_162), (6, .int r_161), (0, .ref b), (1, .ref (oa (gw Γ) 0)), (2, .ref (oa (gw Γ) 95)), (3, .ref (oa (gw Γ) 108)), (4, .ref (oa (gw Γ) 109))]) C dL_law_2281 rfl rfl (by decide) rfl ?_
                                                  refine g_goto (tgt := 28) C dL_law_2284 (by decide) ?_
                                                  refine g_sub [3, 4, 5, 6, 7, 0] rfl ?_
                                                  exact hrec (v5 + (6 : Int32)) m_163 _ (by omega) h
                                                · replace h := it_f c_164 h
                                                  cases h
                                            · replace h := it_f c_166 h
                                              cases h
                                          · replace h := it_f c_167 h
                                            by_cases c_177 : ((xs v5.toNatClampNeg) &&& (63 : Int32)) = (20 : Int32)
                                            · replace h := it_t c_177 h
                                              refine g_tin (tgt := 1388) (off := 1343) C dL_law_45 (by rw [c_177]; decide) (by rw [c_177]; decide) (by rw [c_177]; rfl) (by decide) ?_
                                              refine g_aload_n C dL_law_1388 1 rfl rfl ?_
                                              refine g_aload_n C dL_law_1389 0 rfl rfl ?_
                                              refine g_iload C dL_law_1390 5 rfl ?_
                                              refine g_iconst (v := (1 : Int32)) C dL_law_1392 (by decide) ?_
                                              refine g_iadd C dL_law_1393 ?_
                                              obtain ⟨g_168, h⟩ := gd_some h
                                              refine g_sld C S dL_law_1394 g_168 ?_
                                              refine g_aload C dL_law_1395 4 rfl ?_
                                              obtain ⟨r_169, m_169, hk_169, h⟩ := b2_some h
                                              refine g_wI (As := [.ref (oa (gw Γ) 0), .int (xs (v5 + (1 : Int32)).toNatClampNeg), .ref (oa (gw Γ) 109)]) (mc' := 2) C dL_law_1397 mf_L_leniency k_1080 ⟨by decide, by decide⟩ rfl rfl (Nat.le_of_ble_eq_true rfl) (by omega) (c_L_leniency N (gl Γ) C.2.2.2.2 (gw Γ) (xs (v5 + (1 : Int32)).toNatClampNeg) m _ hk_169) ?_
                                              refine g_istore (lv' := [(6, .int r_169), (0, .ref b), (1, .ref (oa (gw Γ) 0)), (2, .ref (oa (gw Γ) 95)), (3, .ref (oa (gw Γ) 108)), (4, .ref (oa (gw Γ) 109)), (5, .int v5)]) C dL_law_1400 (by decide) rfl ?_
                                              refine g_aload_n C dL_law_1402 3 rfl rfl ?_
                                              refine g_aload_n C dL_law_1403 1 rfl rfl ?_
                                              refine g_iload C dL_law_1404 6 rfl ?_
                                              refine g_iconst (v := (1 : Int32)) C dL_law_1406 (by decide) ?_
                                              refine g_iadd C dL_law_1407 ?_
                                              refine g_sld C S dL_law_1408 g_168 ?_
                                              obtain ⟨r_170, m_170, hk_170, h⟩ := b2_some h
                                              refine g_vD (As := [.int (xs (v5 + (1 : Int32)).toNatClampNeg)]) (a := 95) (ci := 10) C dL_law_1409 mf_X10_leniency k_1081 rfl (by decide) ⟨by decide, by decide⟩ rfl rfl (Nat.le_of_ble_eq_true rfl) (by omega) rfl (c_X10_leniency N (gl Γ) C.2.2.2.2 (gw Γ) (xs (v5 + (1 : Int32)).toNatClampNeg) m_169 _ hk_170) ?_
                                              refine g_dstore (lv' := [(7, .double r_170), (6, .int r_169), (0, .ref b), (1, .ref (oa (gw Γ) 0)), (2, .ref (oa (gw Γ) 95)), (3, .ref (oa (gw Γ) 108)), (4, .ref (oa (gw Γ) 109)), (5, .int v5)]) C dL_law_1412 (by decide) rfl ?_
                                              refine g_aload_n C dL_law_1414 4 rfl rfl ?_
                                              obtain ⟨r_171, m_171, hk_171, h⟩ := b2_some h
                                              refine g_vI (As := []) (a := 95) (ci := 10) C dL_law_1415 mf_X10_thrown k_975 rfl (by decide) ⟨by decide, by decide⟩ rfl rfl (Nat.le_of_ble_eq_true rfl) (by omega) rfl (c_X10_thrown N (gl Γ) C.2.2.2.2 (gw Γ)  m_170 _ hk_171) ?_
                                              refine g_iload C dL_law_1418 1 rfl ?_
                                              refine g_icmp_eq (tgt := 1425) C dL_law_1420 (by decide) (fun c_176 => ?_) (fun c_176 => ?_)
                                              · replace h := it_t c_176 h
                                                refine g_iload C dL_law_1425 1 rfl ?_
                                                refine g_if_ne (tgt := 1462) C dL_law_1427 (by decide) (fun c_175 => ?_) (fun c_175 => ?_)
                                                · replace h := it_f c_175 h
                                                  refine g_goto (tgt := 2281) C dL_law_1462 (by decide) ?_
                                                  refine g_iinc (q := 7) (v := v5 + (6 : Int32)) (lv' := [(5, .int (v5 + (6 : Int32))), (7, .double r_170), (6, .int r_169), (0, .ref b), (1, .ref (oa (gw Γ) 0)), (2, .ref (oa (gw Γ) 95)), (3, .ref (oa (gw Γ) 108)), (4, .ref (oa (gw Γ) 109))]) C dL_law_2281 rfl rfl (by decide) rfl ?_
                                                  refine g_goto (tgt := 28) C dL_law_2284 (by decide) ?_
                                                  refine g_sub [3, 4, 5, 6, 7, 0] rfl ?_
                                                  exact hrec (v5 + (6 : Int32)) m_171 _ (by omega) h
                                                · replace h := it_t c_175 h
                                                  refine g_aload C dL_law_1430 6 rfl ?_
                                                  refine g_iconst (v := (0 : Int32)) C dL_law_1432 (by decide) ?_
                                                  refine g_dald' (j := 0) C dL_law_1433 (okA_of rfl rfl (by decide)) (by decide) ?_
                                                  refine g_dload C dL_law_1434 0 rfl ?_
                                                  refine g_dcmp C dL_law_1436 ?_
                                                  refine g_if_eq (tgt := 1462) C dL_law_1437 (by decide) (fun c_174 => ?_) (fun c_174 => ?_)
                                                  · replace h := it_t c_174 h
                                                    refine g_goto (tgt := 2281) C dL_law_1462 (by decide) ?_
                                                    refine g_iinc (q := 7) (v := v5 + (6 : Int32)) (lv' := [(5, .int (v5 + (6 : Int32))), (7, .double r_170), (6, .int r_169), (0, .ref b), (1, .ref (oa (gw Γ) 0)), (2, .ref (oa (gw Γ) 95)), (3, .ref (oa (gw Γ) 108)), (4, .ref (oa (gw Γ) 109))]) C dL_law_2281 rfl rfl (by decide) rfl ?_
                                                    refine g_goto (tgt := 28) C dL_law_2284 (by decide) ?_
                                                    refine g_sub [3, 4, 5, 6, 7, 0] rfl ?_
                                                    exact hrec (v5 + (6 : Int32)) m_171 _ (by omega) h
                                                  · replace h := it_f c_174 h
                                                    refine g_aload C dL_law_1440 6 rfl ?_
                                                    refine g_iconst (v := (0 : Int32)) C dL_law_1442 (by decide) ?_
                                                    refine g_dald' (j := 0) C dL_law_1443 (okA_of rfl rfl (by decide)) (by decide) ?_
                                                    refine g_aload C dL_law_1444 6 rfl ?_
                                                    refine g_iconst (v := (0 : Int32)) C dL_law_1446 (by decide) ?_
                                                    refine g_dald' (j := 0) C dL_law_1447 (okA_of rfl rfl (by decide)) (by decide) ?_
                                                    refine g_dcmp C dL_law_1448 ?_
                                                    refine g_if_eq (tgt := 1460) C dL_law_1449 (by decide) (fun c_173 => ?_) (fun c_173 => ?_)
                                                    · replace h := it_t c_173 h
                                                      cases h
                                                    · replace h := it_f c_173 h
                                                      refine g_dload C dL_law_1452 0 rfl ?_
                                                      refine g_dload C dL_law_1454 0 rfl ?_
                                                      refine g_dcmp C dL_law_1456 ?_
                                                      refine g_if_ne (tgt := 1462) C dL_law_1457 (by decide) (fun c_172 => ?_) (fun c_172 => ?_)
                                                      · replace h := it_f c_172 h
                                                        refine g_goto (tgt := 2281) C dL_law_1462 (by decide) ?_
                                                        refine g_iinc (q := 7) (v := v5 + (6 : Int32)) (lv' := [(5, .int (v5 + (6 : Int32))), (7, .double r_170), (6, .int r_169), (0, .ref b), (1, .ref (oa (gw Γ) 0)), (2, .ref (oa (gw Γ) 95)), (3, .ref (oa (gw Γ) 108)), (4, .ref (oa (gw Γ) 109))]) C dL_law_2281 rfl rfl (by decide) rfl ?_
                                                        refine g_goto (tgt := 28) C dL_law_2284 (by decide) ?_
                                                        refine g_sub [3, 4, 5, 6, 7, 0] rfl ?_
                                                        exact hrec (v5 + (6 : Int32)) m_171 _ (by omega) h
                                                      · replace h := it_t c_172 h
                                                        cases h
                                              · replace h := it_f c_176 h
                                                cases h
                                            · replace h := it_f c_177 h
                                              by_cases c_187 : ((xs v5.toNatClampNeg) &&& (63 : Int32)) = (21 : Int32)
                                              · replace h := it_t c_187 h
                                                refine g_tin (tgt := 1465) (off := 1420) C dL_law_45 (by rw [c_187]; decide) (by rw [c_187]; decide) (by rw [c_187]; rfl) (by decide) ?_
                                                refine g_aload_n C dL_law_1465 1 rfl rfl ?_
                                                refine g_aload_n C dL_law_1466 0 rfl rfl ?_
                                                refine g_iload C dL_law_1467 5 rfl ?_
                                                refine g_iconst (v := (1 : Int32)) C dL_law_1469 (by decide) ?_
                                                refine g_iadd C dL_law_1470 ?_
                                                obtain ⟨g_178, h⟩ := gd_some h
                                                refine g_sld C S dL_law_1471 g_178 ?_
                                                refine g_aload C dL_law_1472 4 rfl ?_
                                                obtain ⟨r_179, m_179, hk_179, h⟩ := b2_some h
                                                refine g_wI (As := [.ref (oa (gw Γ) 0), .int (xs (v5 + (1 : Int32)).toNatClampNeg), .ref (oa (gw Γ) 109)]) (mc' := 2) C dL_law_1474 mf_L_disagreement k_1085 ⟨by decide, by decide⟩ rfl rfl (Nat.le_of_ble_eq_true rfl) (by omega) (c_L_disagreement N (gl Γ) C.2.2.2.2 (gw Γ) (xs (v5 + (1 : Int32)).toNatClampNeg) m _ hk_179) ?_
                                                refine g_istore (lv' := [(6, .int r_179), (0, .ref b), (1, .ref (oa (gw Γ) 0)), (2, .ref (oa (gw Γ) 95)), (3, .ref (oa (gw Γ) 108)), (4, .ref (oa (gw Γ) 109)), (5, .int v5)]) C dL_law_1477 (by decide) rfl ?_
                                                refine g_aload_n C dL_law_1479 3 rfl rfl ?_
                                                refine g_aload_n C dL_law_1480 1 rfl rfl ?_
                                                refine g_iload C dL_law_1481 6 rfl ?_
                                                refine g_iconst (v := (1 : Int32)) C dL_law_1483 (by decide) ?_
                                                refine g_iadd C dL_law_1484 ?_
                                                refine g_sld C S dL_law_1485 g_178 ?_
                                                obtain ⟨r_180, m_180, hk_180, h⟩ := b2_some h
                                                refine g_vD (As := [.int (xs (v5 + (1 : Int32)).toNatClampNeg)]) (a := 95) (ci := 10) C dL_law_1486 mf_X10_disagreement k_1086 rfl (by decide) ⟨by decide, by decide⟩ rfl rfl (Nat.le_of_ble_eq_true rfl) (by omega) rfl (c_X10_disagreement N (gl Γ) C.2.2.2.2 (gw Γ) (xs (v5 + (1 : Int32)).toNatClampNeg) m_179 _ hk_180) ?_
                                                refine g_dstore (lv' := [(7, .double r_180), (6, .int r_179), (0, .ref b), (1, .ref (oa (gw Γ) 0)), (2, .ref (oa (gw Γ) 95)), (3, .ref (oa (gw Γ) 108)), (4, .ref (oa (gw Γ) 109)), (5, .int v5)]) C dL_law_1489 (by decide) rfl ?_
                                                refine g_aload_n C dL_law_1491 4 rfl rfl ?_
                                                obtain ⟨r_181, m_181, hk_181, h⟩ := b2_some h
                                                refine g_vI (As := []) (a := 95) (ci := 10) C dL_law_1492 mf_X10_thrown k_975 rfl (by decide) ⟨by decide, by decide⟩ rfl rfl (Nat.le_of_ble_eq_true rfl) (by omega) rfl (c_X10_thrown N (gl Γ) C.2.2.2.2 (gw Γ)  m_180 _ hk_181) ?_
                                                refine g_iload C dL_law_1495 1 rfl ?_
                                                refine g_icmp_eq (tgt := 1502) C dL_law_1497 (by decide) (fun c_186 => ?_) (fun c_186 => ?_)
                                                · replace h := it_t c_186 h
                                                  refine g_iload C dL_law_1502 1 rfl ?_
                                                  refine g_if_ne (tgt := 1539) C dL_law_1504 (by decide) (fun c_185 => ?_) (fun c_185 => ?_)
                                                  · replace h := it_f c_185 h
                                                    refine g_goto (tgt := 2281) C dL_law_1539 (by decide) ?_
                                                    refine g_iinc (q := 7) (v := v5 + (6 : Int32)) (lv' := [(5, .int (v5 + (6 : Int32))), (7, .double r_180), (6, .int r_179), (0, .ref b), (1, .ref (oa (gw Γ) 0)), (2, .ref (oa (gw Γ) 95)), (3, .ref (oa (gw Γ) 108)), (4, .ref (oa (gw Γ) 109))]) C dL_law_2281 rfl rfl (by decide) rfl ?_
                                                    refine g_goto (tgt := 28) C dL_law_2284 (by decide) ?_
                                                    refine g_sub [3, 4, 5, 6, 7, 0] rfl ?_
                                                    exact hrec (v5 + (6 : Int32)) m_181 _ (by omega) h
                                                  · replace h := it_t c_185 h
                                                    refine g_aload C dL_law_1507 6 rfl ?_
                                                    refine g_iconst (v := (0 : Int32)) C dL_law_1509 (by decide) ?_
                                                    refine g_dald' (j := 0) C dL_law_1510 (okA_of rfl rfl (by decide)) (by decide) ?_
                                                    refine g_dload C dL_law_1511 0 rfl ?_
                                                    refine g_dcmp C dL_law_1513 ?_
                                                    refine g_if_eq (tgt := 1539) C dL_law_1514 (by decide) (fun c_184 => ?_) (fun c_184 => ?_)
                                                    · replace h := it_t c_184 h
                                                      refine g_goto (tgt := 2281) C dL_law_1539 (by decide) ?_
                                                      refine g_iinc (q := 7) (v := v5 + (6 : Int32)) (lv' := [(5, .int (v5 + (6 : Int32))), (7, .double r_180), (6, .int r_179), (0, .ref b), (1, .ref (oa (gw Γ) 0)), (2, .ref (oa (gw Γ) 95)), (3, .ref (oa (gw Γ) 108)), (4, .ref (oa (gw Γ) 109))]) C dL_law_2281 rfl rfl (by decide) rfl ?_
                                                      refine g_goto (tgt := 28) C dL_law_2284 (by decide) ?_
                                                      refine g_sub [3, 4, 5, 6, 7, 0] rfl ?_
                                                      exact hrec (v5 + (6 : Int32)) m_181 _ (by omega) h
                                                    · replace h := it_f c_184 h
                                                      refine g_aload C dL_law_1517 6 rfl ?_
                                                      refine g_iconst (v := (0 : Int32)) C dL_law_1519 (by decide) ?_
                                                      refine g_dald' (j := 0) C dL_law_1520 (okA_of rfl rfl (by decide)) (by decide) ?_
                                                      refine g_aload C dL_law_1521 6 rfl ?_
                                                      refine g_iconst (v := (0 : Int32)) C dL_law_1523 (by decide) ?_
                                                      refine g_dald' (j := 0) C dL_law_1524 (okA_of rfl rfl (by decide)) (by decide) ?_
                                                      refine g_dcmp C dL_law_1525 ?_
                                                      refine g_if_eq (tgt := 1537) C dL_law_1526 (by decide) (fun c_183 => ?_) (fun c_183 => ?_)
                                                      · replace h := it_t c_183 h
                                                        cases h
                                                      · replace h := it_f c_183 h
                                                        refine g_dload C dL_law_1529 0 rfl ?_
                                                        refine g_dload C dL_law_1531 0 rfl ?_
                                                        refine g_dcmp C dL_law_1533 ?_
                                                        refine g_if_ne (tgt := 1539) C dL_law_1534 (by decide) (fun c_182 => ?_) (fun c_182 => ?_)
                                                        · replace h := it_f c_182 h
                                                          refine g_goto (tgt := 2281) C dL_law_1539 (by decide) ?_
                                                          refine g_iinc (q := 7) (v := v5 + (6 : Int32)) (lv' := [(5, .int (v5 + (6 : Int32))), (7, .double r_180), (6, .int r_179), (0, .ref b), (1, .ref (oa (gw Γ) 0)), (2, .ref (oa (gw Γ) 95)), (3, .ref (oa (gw Γ) 108)), (4, .ref (oa (gw Γ) 109))]) C dL_law_2281 rfl rfl (by decide) rfl ?_
                                                          refine g_goto (tgt := 28) C dL_law_2284 (by decide) ?_
                                                          refine g_sub [3, 4, 5, 6, 7, 0] rfl ?_
                                                          exact hrec (v5 + (6 : Int32)) m_181 _ (by omega) h
                                                        · replace h := it_t c_182 h
                                                          cases h
                                                · replace h := it_f c_186 h
                                                  cases h
                                              · replace h := it_f c_187 h
                                                by_cases c_195 : ((xs v5.toNatClampNeg) &&& (63 : Int32)) = (22 : Int32)
                                                · replace h := it_t c_195 h
                                                  refine g_tin (tgt := 1542) (off := 1497) C dL_law_45 (by rw [c_195]; decide) (by rw [c_195]; decide) (by rw [c_195]; rfl) (by decide) ?_
                                                  refine g_aload_n C dL_law_1542 1 rfl rfl ?_
                                                  refine g_aload_n C dL_law_1543 0 rfl rfl ?_
                                                  refine g_iload C dL_law_1544 5 rfl ?_
                                                  refine g_iconst (v := (1 : Int32)) C dL_law_1546 (by decide) ?_
                                                  refine g_iadd C dL_law_1547 ?_
                                                  obtain ⟨g_188, h⟩ := gd_some h
                                                  refine g_sld C S dL_law_1548 g_188 ?_
                                                  refine g_aload_n C dL_law_1549 3 rfl rfl ?_
                                                  obtain ⟨r_189, m_189, hk_189, h⟩ := b2_some h
                                                  refine g_wI (As := [.ref (oa (gw Γ) 0), .int (xs (v5 + (1 : Int32)).toNatClampNeg), .ref (oa (gw Γ) 108)]) (mc' := 2) C dL_law_1550 mf_L_rank k_1090 ⟨by decide, by decide⟩ rfl rfl (Nat.le_of_ble_eq_true rfl) (by omega) (c_L_rank N (gl Γ) C.2.2.2.2 (gw Γ) (xs (v5 + (1 : Int32)).toNatClampNeg) m _ hk_189) ?_
                                                  refine g_istore (lv' := [(6, .int r_189), (0, .ref b), (1, .ref (oa (gw Γ) 0)), (2, .ref (oa (gw Γ) 95)), (3, .ref (oa (gw Γ) 108)), (4, .ref (oa (gw Γ) 109)), (5, .int v5)]) C dL_law_1553 (by decide) rfl ?_
                                                  refine g_aload_n C dL_law_1555 3 rfl rfl ?_
                                                  refine g_aload_n C dL_law_1556 1 rfl rfl ?_
                                                  refine g_iload C dL_law_1557 6 rfl ?_
                                                  refine g_iconst (v := (1 : Int32)) C dL_law_1559 (by decide) ?_
                                                  refine g_iadd C dL_law_1560 ?_
                                                  refine g_sld C S dL_law_1561 g_188 ?_
                                                  obtain ⟨r_190, m_190, hk_190, h⟩ := b2_some h
                                                  refine g_vI (As := [.int (xs (v5 + (1 : Int32)).toNatClampNeg)]) (a := 95) (ci := 10) C dL_law_1562 mf_X10_rank k_1091 rfl (by decide) ⟨by decide, by decide⟩ rfl rfl (Nat.le_of_ble_eq_true rfl) (by omega) rfl (c_X10_rank N (gl Γ) C.2.2.2.2 (gw Γ) (xs (v5 + (1 : Int32)).toNatClampNeg) m_189 _ hk_190) ?_
                                                  refine g_istore (lv' := [(7, .int r_190), (6, .int r_189), (0, .ref b), (1, .ref (oa (gw Γ) 0)), (2, .ref (oa (gw Γ) 95)), (3, .ref (oa (gw Γ) 108)), (4, .ref (oa (gw Γ) 109)), (5, .int v5)]) C dL_law_1565 (by decide) rfl ?_
                                                  refine g_aload_n C dL_law_1567 4 rfl rfl ?_
                                                  obtain ⟨r_191, m_191, hk_191, h⟩ := b2_some h
                                                  refine g_vI (As := []) (a := 95) (ci := 10) C dL_law_1568 mf_X10_thrown k_975 rfl (by decide) ⟨by decide, by decide⟩ rfl rfl (Nat.le_of_ble_eq_true rfl) (by omega) rfl (c_X10_thrown N (gl Γ) C.2.2.2.2 (gw Γ)  m_190 _ hk_191) ?_
                                                  refine g_iload C dL_law_1571 1 rfl ?_
                                                  refine g_icmp_eq (tgt := 1578) C dL_law_1573 (by decide) (fun c_194 => ?_) (fun c_194 => ?_)
                                                  · replace h := it_t c_194 h
                                                    refine g_iload C dL_law_1578 1 rfl ?_
                                                    refine g_if_ne (tgt := 1595) C dL_law_1580 (by decide) (fun c_193 => ?_) (fun c_193 => ?_)
                                                    · replace h := it_f c_193 h
                                                      refine g_goto (tgt := 2281) C dL_law_1595 (by decide) ?_
                                                      refine g_iinc (q := 7) (v := v5 + (6 : Int32)) (lv' := [(5, .int (v5 + (6 : Int32))), (7, .int r_190), (6, .int r_189), (0, .ref b), (1, .ref (oa (gw Γ) 0)), (2, .ref (oa (gw Γ) 95)), (3, .ref (oa (gw Γ) 108)), (4, .ref (oa (gw Γ) 109))]) C dL_law_2281 rfl rfl (by decide) rfl ?_
                                                      refine g_goto (tgt := 28) C dL_law_2284 (by decide) ?_
                                                      refine g_sub [3, 4, 5, 6, 7, 0] rfl ?_
                                                      exact hrec (v5 + (6 : Int32)) m_191 _ (by omega) h
                                                    · replace h := it_t c_193 h
                                                      refine g_aload_n C dL_law_1583 5 rfl rfl ?_
                                                      refine g_iconst (v := (0 : Int32)) C dL_law_1584 (by decide) ?_
                                                      refine g_lald' (j := 0) C dL_law_1585 (okA_of rfl rfl (by decide)) (by decide) ?_
                                                      refine g_iload C dL_law_1586 0 rfl ?_
                                                      refine g_i2l C dL_law_1588 ?_
                                                      refine g_lcmp C dL_law_1589 ?_
                                                      refine g_if_eq (tgt := 1595) C dL_law_1590 (by decide) (fun c_192 => ?_) (fun c_192 => ?_)
                                                      · replace h := it_t c_192 h
                                                        refine g_goto (tgt := 2281) C dL_law_1595 (by decide) ?_
                                                        refine g_iinc (q := 7) (v := v5 + (6 : Int32)) (lv' := [(5, .int (v5 + (6 : Int32))), (7, .int r_190), (6, .int r_189), (0, .ref b), (1, .ref (oa (gw Γ) 0)), (2, .ref (oa (gw Γ) 95)), (3, .ref (oa (gw Γ) 108)), (4, .ref (oa (gw Γ) 109))]) C dL_law_2281 rfl rfl (by decide) rfl ?_
                                                        refine g_goto (tgt := 28) C dL_law_2284 (by decide) ?_
                                                        refine g_sub [3, 4, 5, 6, 7, 0] rfl ?_
                                                        exact hrec (v5 + (6 : Int32)) m_191 _ (by omega) h
                                                      · replace h := it_f c_192 h
                                                        cases h
                                                  · replace h := it_f c_194 h
                                                    cases h
                                                · replace h := it_f c_195 h
                                                  by_cases c_204 : ((xs v5.toNatClampNeg) &&& (63 : Int32)) = (23 : Int32)
                                                  · replace h := it_t c_204 h
                                                    refine g_tin (tgt := 1598) (off := 1553) C dL_law_45 (by rw [c_204]; decide) (by rw [c_204]; decide) (by rw [c_204]; rfl) (by decide) ?_
                                                    refine g_aload_n C dL_law_1598 1 rfl rfl ?_
                                                    refine g_aload_n C dL_law_1599 0 rfl rfl ?_
                                                    refine g_iload C dL_law_1600 5 rfl ?_
                                                    refine g_iconst (v := (1 : Int32)) C dL_law_1602 (by decide) ?_
                                                    refine g_iadd C dL_law_1603 ?_
                                                    obtain ⟨g_196, h⟩ := gd_some h
                                                    refine g_sld C S dL_law_1604 g_196 ?_
                                                    refine g_aload_n C dL_law_1605 0 rfl rfl ?_
                                                    refine g_iload C dL_law_1606 5 rfl ?_
                                                    refine g_iconst (v := (2 : Int32)) C dL_law_1608 (by decide) ?_
                                                    refine g_iadd C dL_law_1609 ?_
                                                    obtain ⟨g_197, h⟩ := gd_some h
                                                    refine g_sld C S dL_law_1610 g_197 ?_
                                                    refine g_aload_n C dL_law_1611 3 rfl rfl ?_
                                                    obtain ⟨r_198, m_198, hk_198, h⟩ := b2_some h
                                                    refine g_wI (As := [.ref (oa (gw Γ) 0), .int (xs (v5 + (1 : Int32)).toNatClampNeg), .int (xs (v5 + (2 : Int32)).toNatClampNeg), .ref (oa (gw Γ) 108)]) (mc' := 2) C dL_law_1612 mf_L_ranked k_1095 ⟨by decide, by decide⟩ rfl rfl (Nat.le_of_ble_eq_true rfl) (by omega) (c_L_ranked N (gl Γ) C.2.2.2.2 (gw Γ) (xs (v5 + (1 : Int32)).toNatClampNeg) (xs (v5 + (2 : Int32)).toNatClampNeg) m _ hk_198) ?_
                                                    refine g_istore (lv' := [(6, .int r_198), (0, .ref b), (1, .ref (oa (gw Γ) 0)), (2, .ref (oa (gw Γ) 95)), (3, .ref (oa (gw Γ) 108)), (4, .ref (oa (gw Γ) 109)), (5, .int v5)]) C dL_law_1615 (by decide) rfl ?_
                                                    refine g_aload_n C dL_law_1617 3 rfl rfl ?_
                                                    refine g_aload_n C dL_law_1618 1 rfl rfl ?_
                                                    refine g_iload C dL_law_1619 6 rfl ?_
                                                    refine g_iconst (v := (1 : Int32)) C dL_law_1621 (by decide) ?_
                                                    refine g_iadd C dL_law_1622 ?_
                                                    refine g_sld C S dL_law_1623 g_196 ?_
                                                    refine g_aload_n C dL_law_1624 1 rfl rfl ?_
                                                    refine g_iload C dL_law_1625 6 rfl ?_
                                                    refine g_iconst (v := (2 : Int32)) C dL_law_1627 (by decide) ?_
                                                    refine g_iadd C dL_law_1628 ?_
                                                    refine g_sld C S dL_law_1629 g_197 ?_
                                                    obtain ⟨r_199, m_199, hk_199, h⟩ := b2_some h
                                                    refine g_vI (As := [.int (xs (v5 + (1 : Int32)).toNatClampNeg), .int (xs (v5 + (2 : Int32)).toNatClampNeg)]) (a := 95) (ci := 10) C dL_law_1630 mf_X10_ranked k_1096 rfl (by decide) ⟨by decide, by decide⟩ rfl rfl (Nat.le_of_ble_eq_true rfl) (by omega) rfl (c_X10_ranked N (gl Γ) C.2.2.2.2 (gw Γ) (xs (v5 + (1 : Int32)).toNatClampNeg) (xs (v5 + (2 : Int32)).toNatClampNeg) m_198 _ hk_199) ?_
                                                    refine g_istore (lv' := [(7, .int r_199), (6, .int r_198), (0, .ref b), (1, .ref (oa (gw Γ) 0)), (2, .ref (oa (gw Γ) 95)), (3, .ref (oa (gw Γ) 108)), (4, .ref (oa (gw Γ) 109)), (5, .int v5)]) C dL_law_1633 (by decide) rfl ?_
                                                    refine g_aload_n C dL_law_1635 4 rfl rfl ?_
                                                    obtain ⟨r_200, m_200, hk_200, h⟩ := b2_some h
                                                    refine g_vI (As := []) (a := 95) (ci := 10) C dL_law_1636 mf_X10_thrown k_975 rfl (by decide) ⟨by decide, by decide⟩ rfl rfl (Nat.le_of_ble_eq_true rfl) (by omega) rfl (c_X10_thrown N (gl Γ) C.2.2.2.2 (gw Γ)  m_199 _ hk_200) ?_
                                                    refine g_iload C dL_law_1639 1 rfl ?_
                                                    refine g_icmp_eq (tgt := 1646) C dL_law_1641 (by decide) (fun c_203 => ?_) (fun c_203 => ?_)
                                                    · replace h := it_t c_203 h
                                                      refine g_iload C dL_law_1646 1 rfl ?_
                                                      refine g_if_ne (tgt := 1663) C dL_law_1648 (by decide) (fun c_202 => ?_) (fun c_202 => ?_)
                                                      · replace h := it_f c_202 h
                                                        refine g_goto (tgt := 2281) C dL_law_1663 (by decide) ?_
                                                        refine g_iinc (q := 7) (v := v5 + (6 : Int32)) (lv' := [(5, .int (v5 + (6 : Int32))), (7, .int r_199), (6, .int r_198), (0, .ref b), (1, .ref (oa (gw Γ) 0)), (2, .ref (oa (gw Γ) 95)), (3, .ref (oa (gw Γ) 108)), (4, .ref (oa (gw Γ) 109))]) C dL_law_2281 rfl rfl (by decide) rfl ?_
                                                        refine g_goto (tgt := 28) C dL_law_2284 (by decide) ?_
                                                        refine g_sub [3, 4, 5, 6, 7, 0] rfl ?_
                                                        exact hrec (v5 + (6 : Int32)) m_200 _ (by omega) h
                                                      · replace h := it_t c_202 h
                                                        refine g_aload_n C dL_law_1651 5 rfl rfl ?_
                                                        refine g_iconst (v := (0 : Int32)) C dL_law_1652 (by decide) ?_
                                                        refine g_lald' (j := 0) C dL_law_1653 (okA_of rfl rfl (by decide)) (by decide) ?_
                                                        refine g_iload C dL_law_1654 0 rfl ?_
                                                        refine g_i2l C dL_law_1656 ?_
                                                        refine g_lcmp C dL_law_1657 ?_
                                                        refine g_if_eq (tgt := 1663) C dL_law_1658 (by decide) (fun c_201 => ?_) (fun c_201 => ?_)
                                                        · replace h := it_t c_201 h
                                                          refine g_goto (tgt := 2281) C dL_law_1663 (by decide) ?_
                                                          refine g_iinc (q := 7) (v := v5 + (6 : Int32)) (lv' := [(5, .int (v5 + (6 : Int32))), (7, .int r_199), (6, .int r_198), (0, .ref b), (1, .ref (oa (gw Γ) 0)), (2, .ref (oa (gw Γ) 95)), (3, .ref (oa (gw Γ) 108)), (4, .ref (oa (gw Γ) 109))]) C dL_law_2281 rfl rfl (by decide) rfl ?_
                                                          refine g_goto (tgt := 28) C dL_law_2284 (by decide) ?_
                                                          refine g_sub [3, 4, 5, 6, 7, 0] rfl ?_
                                                          exact hrec (v5 + (6 : Int32)) m_200 _ (by omega) h
                                                        · replace h := it_f c_201 h
                                                          cases h
                                                    · replace h := it_f c_203 h
                                                      cases h
                                                  · replace h := it_f c_204 h
                                                    by_cases c_213 : ((xs v5.toNatClampNeg) &&& (63 : Int32)) = (24 : Int32)
                                                    · replace h := it_t c_213 h
                                                      refine g_tin (tgt := 1666) (off := 1621) C dL_law_45 (by rw [c_213]; decide) (by rw [c_213]; decide) (by rw [c_213]; rfl) (by decide) ?_
                                                      refine g_aload_n C dL_law_1666 1 rfl rfl ?_
                                                      refine g_aload_n C dL_law_1667 0 rfl rfl ?_
                                                      refine g_iload C dL_law_1668 5 rfl ?_
                                                      refine g_iconst (v := (1 : Int32)) C dL_law_1670 (by decide) ?_
                                                      refine g_iadd C dL_law_1671 ?_
                                                      obtain ⟨g_205, h⟩ := gd_some h
                                                      refine g_sld C S dL_law_1672 g_205 ?_
                                                      refine g_aload_n C dL_law_1673 0 rfl rfl ?_
                                                      refine g_iload C dL_law_1674 5 rfl ?_
                                                      refine g_iconst (v := (2 : Int32)) C dL_law_1676 (by decide) ?_
                                                      refine g_iadd C dL_law_1677 ?_
                                                      obtain ⟨g_206, h⟩ := gd_some h
                                                      refine g_sld C S dL_law_1678 g_206 ?_
                                                      refine g_aload_n C dL_law_1679 3 rfl rfl ?_
                                                      obtain ⟨r_207, m_207, hk_207, h⟩ := b2_some h
                                                      refine g_wI (As := [.ref (oa (gw Γ) 0), .int (xs (v5 + (1 : Int32)).toNatClampNeg), .int (xs (v5 + (2 : Int32)).toNatClampNeg), .ref (oa (gw Γ) 108)]) (mc' := 4) C dL_law_1680 mf_L_tieRound k_1100 ⟨by decide, by decide⟩ rfl rfl (Nat.le_of_ble_eq_true rfl) (by omega) (c_L_tieRound N (gl Γ) C.2.2.2.2 (gw Γ) (xs (v5 + (1 : Int32)).toNatClampNeg) (xs (v5 + (2 : Int32)).toNatClampNeg) m _ hk_207) ?_
                                                      refine g_istore (lv' := [(6, .int r_207), (0, .ref b), (1, .ref (oa (gw Γ) 0)), (2, .ref (oa (gw Γ) 95)), (3, .ref (oa (gw Γ) 108)), (4, .ref (oa (gw Γ) 109)), (5, .int v5)]) C dL_law_1683 (by decide) rfl ?_
                                                      refine g_aload_n C dL_law_1685 3 rfl rfl ?_
                                                      refine g_aload_n C dL_law_1686 1 rfl rfl ?_
                                                      refine g_iload C dL_law_1687 6 rfl ?_
                                                      refine g_iconst (v := (1 : Int32)) C dL_law_1689 (by decide) ?_
                                                      refine g_iadd C dL_law_1690 ?_
                                                      refine g_sld C S dL_law_1691 g_205 ?_
                                                      refine g_aload_n C dL_law_1692 1 rfl rfl ?_
                                                      refine g_iload C dL_law_1693 6 rfl ?_
                                                      refine g_iconst (v := (2 : Int32)) C dL_law_1695 (by decide) ?_
                                                      refine g_iadd C dL_law_1696 ?_
                                                      refine g_sld C S dL_law_1697 g_206 ?_
                                                      obtain ⟨r_208, m_208, hk_208, h⟩ := b2_some h
                                                      refine g_vI (As := [.int (xs (v5 + (1 : Int32)).toNatClampNeg), .int (xs (v5 + (2 : Int32)).toNatClampNeg)]) (a := 95) (ci := 10) C dL_law_1698 mf_X10_tieRound k_1101 rfl (by decide) ⟨by decide, by decide⟩ rfl rfl (Nat.le_of_ble_eq_true rfl) (by omega) rfl (c_X10_tieRound N (gl Γ) C.2.2.2.2 (gw Γ) (xs (v5 + (1 : Int32)).toNatClampNeg) (xs (v5 + (2 : Int32)).toNatClampNeg) m_207 _ hk_208) ?_
                                                      refine g_istore (lv' := [(7, .int r_208), (6, .int r_207), (0, .ref b), (1, .ref (oa (gw Γ) 0)), (2, .ref (oa (gw Γ) 95)), (3, .ref (oa (gw Γ) 108)), (4, .ref (oa (gw Γ) 109)), (5, .int v5)]) C dL_law_1701 (by decide) rfl ?_
                                                      refine g_aload_n C dL_law_1703 4 rfl rfl ?_
                                                      obtain ⟨r_209, m_209, hk_209, h⟩ := b2_some h
                                                      refine g_vI (As := []) (a := 95) (ci := 10) C dL_law_1704 mf_X10_thrown k_975 rfl (by decide) ⟨by decide, by decide⟩ rfl rfl (Nat.le_of_ble_eq_true rfl) (by omega) rfl (c_X10_thrown N (gl Γ) C.2.2.2.2 (gw Γ)  m_208 _ hk_209) ?_
                                                      refine g_iload C dL_law_1707 1 rfl ?_
                                                      refine g_icmp_eq (tgt := 1714) C dL_law_1709 (by decide) (fun c_212 => ?_) (fun c_212 => ?_)
                                                      · replace h := it_t c_212 h
                                                        refine g_iload C dL_law_1714 1 rfl ?_
                                                        refine g_if_ne (tgt := 1731) C dL_law_1716 (by decide) (fun c_211 => ?_) (fun c_211 => ?_)
                                                        · replace h := it_f c_211 h
                                                          refine g_goto (tgt := 2281) C dL_law_1731 (by decide) ?_
                                                          refine g_iinc (q := 7) (v := v5 + (6 : Int32)) (lv' := [(5, .int (v5 + (6 : Int32))), (7, .int r_208), (6, .int r_207), (0, .ref b), (1, .ref (oa (gw Γ) 0)), (2, .ref (oa (gw Γ) 95)), (3, .ref (oa (gw Γ) 108)), (4, .ref (oa (gw Γ) 109))]) C dL_law_2281 rfl rfl (by decide) rfl ?_
                                                          refine g_goto (tgt := 28) C dL_law_2284 (by decide) ?_
                                                          refine g_sub [3, 4, 5, 6, 7, 0] rfl ?_
                                                          exact hrec (v5 + (6 : Int32)) m_209 _ (by omega) h
                                                        · replace h := it_t c_211 h
                                                          refine g_aload_n C dL_law_1719 5 rfl rfl ?_
                                                          refine g_iconst (v := (0 : Int32)) C dL_law_1720 (by decide) ?_
                                                          refine g_lald' (j := 0) C dL_law_1721 (okA_of rfl rfl (by decide)) (by decide) ?_
                                                          refine g_iload C dL_law_1722 0 rfl ?_
                                                          refine g_i2l C dL_law_1724 ?_
                                                          refine g_lcmp C dL_law_1725 ?_
                                                          refine g_if_eq (tgt := 1731) C dL_law_1726 (by decide) (fun c_210 => ?_) (fun c_210 => ?_)
                                                          · replace h := it_t c_210 h
                                                            refine g_goto (tgt := 2281) C dL_law_1731 (by decide) ?_
                                                            refine g_iinc (q := 7) (v := v5 + (6 : Int32)) (lv' := [(5, .int (v5 + (6 : Int32))), (7, .int r_208), (6, .int r_207), (0, .ref b), (1, .ref (oa (gw Γ) 0)), (2, .ref (oa (gw Γ) 95)), (3, .ref (oa (gw Γ) 108)), (4, .ref (oa (gw Γ) 109))]) C dL_law_2281 rfl rfl (by decide) rfl ?_
                                                            refine g_goto (tgt := 28) C dL_law_2284 (by decide) ?_
                                                            refine g_sub [3, 4, 5, 6, 7, 0] rfl ?_
                                                            exact hrec (v5 + (6 : Int32)) m_209 _ (by omega) h
                                                          · replace h := it_f c_210 h
                                                            cases h
                                                      · replace h := it_f c_212 h
                                                        cases h
                                                    · replace h := it_f c_213 h
                                                      by_cases c_221 : ((xs v5.toNatClampNeg) &&& (63 : Int32)) = (25 : Int32)
                                                      · replace h := it_t c_221 h
                                                        refine g_tin (tgt := 1734) (off := 1689) C dL_law_45 (by rw [c_221]; decide) (by rw [c_221]; decide) (by rw [c_221]; rfl) (by decide) ?_
                                                        refine g_aload_n C dL_law_1734 1 rfl rfl ?_
                                                        refine g_aload_n C dL_law_1735 0 rfl rfl ?_
                                                        refine g_iload C dL_law_1736 5 rfl ?_
                                                        refine g_iconst (v := (1 : Int32)) C dL_law_1738 (by decide) ?_
                                                        refine g_iadd C dL_law_1739 ?_
                                                        obtain ⟨g_214, h⟩ := gd_some h
                                                        refine g_sld C S dL_law_1740 g_214 ?_
                                                        refine g_aload_n C dL_law_1741 3 rfl rfl ?_
                                                        obtain ⟨r_215, m_215, hk_215, h⟩ := b2_some h
                                                        refine g_wI (As := [.ref (oa (gw Γ) 0), .int (xs (v5 + (1 : Int32)).toNatClampNeg), .ref (oa (gw Γ) 108)]) (mc' := 1) C dL_law_1742 mf_L_setLine k_1105 ⟨by decide, by decide⟩ rfl rfl (Nat.le_of_ble_eq_true rfl) (by omega) (c_L_setLine N (gl Γ) C.2.2.2.2 (gw Γ) (xs (v5 + (1 : Int32)).toNatClampNeg) m _ hk_215) ?_
                                                        refine g_istore (lv' := [(6, .int r_215), (0, .ref b), (1, .ref (oa (gw Γ) 0)), (2, .ref (oa (gw Γ) 95)), (3, .ref (oa (gw Γ) 108)), (4, .ref (oa (gw Γ) 109)), (5, .int v5)]) C dL_law_1745 (by decide) rfl ?_
                                                        refine g_aload_n C dL_law_1747 3 rfl rfl ?_
                                                        refine g_aload_n C dL_law_1748 1 rfl rfl ?_
                                                        refine g_iload C dL_law_1749 6 rfl ?_
                                                        refine g_iconst (v := (1 : Int32)) C dL_law_1751 (by decide) ?_
                                                        refine g_iadd C dL_law_1752 ?_
                                                        refine g_sld C S dL_law_1753 g_214 ?_
                                                        obtain ⟨r_216, m_216, hk_216, h⟩ := b2_some h
                                                        refine g_vI (As := [.int (xs (v5 + (1 : Int32)).toNatClampNeg)]) (a := 95) (ci := 10) C dL_law_1754 mf_X10_setLine k_1106 rfl (by decide) ⟨by decide, by decide⟩ rfl rfl (Nat.le_of_ble_eq_true rfl) (by omega) rfl (c_X10_setLine N (gl Γ) C.2.2.2.2 (gw Γ) (xs (v5 + (1 : Int32)).toNatClampNeg) m_215 _ hk_216) ?_
                                                        refine g_istore (lv' := [(7, .int r_216), (6, .int r_215), (0, .ref b), (1, .ref (oa (gw Γ) 0)), (2, .ref (oa (gw Γ) 95)), (3, .ref (oa (gw Γ) 108)), (4, .ref (oa (gw Γ) 109)), (5, .int v5)]) C dL_law_1757 (by decide) rfl ?_
                                                        refine g_aload_n C dL_law_1759 4 rfl rfl ?_
                                                        obtain ⟨r_217, m_217, hk_217, h⟩ := b2_some h
                                                        refine g_vI (As := []) (a := 95) (ci := 10) C dL_law_1760 mf_X10_thrown k_975 rfl (by decide) ⟨by decide, by decide⟩ rfl rfl (Nat.le_of_ble_eq_true rfl) (by omega) rfl (c_X10_thrown N (gl Γ) C.2.2.2.2 (gw Γ)  m_216 _ hk_217) ?_
                                                        refine g_iload C dL_law_1763 1 rfl ?_
                                                        refine g_icmp_eq (tgt := 1770) C dL_law_1765 (by decide) (fun c_220 => ?_) (fun c_220 => ?_)
                                                        · replace h := it_t c_220 h
                                                          refine g_iload C dL_law_1770 1 rfl ?_
                                                          refine g_if_ne (tgt := 1787) C dL_law_1772 (by decide) (fun c_219 => ?_) (fun c_219 => ?_)
                                                          · replace h := it_f c_219 h
                                                            refine g_goto (tgt := 2281) C dL_law_1787 (by decide) ?_
                                                            refine g_iinc (q := 7) (v := v5 + (6 : Int32)) (lv' := [(5, .int (v5 + (6 : Int32))), (7, .int r_216), (6, .int r_215), (0, .ref b), (1, .ref (oa (gw Γ) 0)), (2, .ref (oa (gw Γ) 95)), (3, .ref (oa (gw Γ) 108)), (4, .ref (oa (gw Γ) 109))]) C dL_law_2281 rfl rfl (by decide) rfl ?_
                                                            refine g_goto (tgt := 28) C dL_law_2284 (by decide) ?_
                                                            refine g_sub [3, 4, 5, 6, 7, 0] rfl ?_
                                                            exact hrec (v5 + (6 : Int32)) m_217 _ (by omega) h
                                                          · replace h := it_t c_219 h
                                                            refine g_aload_n C dL_law_1775 5 rfl rfl ?_
                                                            refine g_iconst (v := (0 : Int32)) C dL_law_1776 (by decide) ?_
                                                            refine g_lald' (j := 0) C dL_law_1777 (okA_of rfl rfl (by decide)) (by decide) ?_
                                                            refine g_iload C dL_law_1778 0 rfl ?_
                                                            refine g_i2l C dL_law_1780 ?_
                                                            refine g_lcmp C dL_law_1781 ?_
                                                            refine g_if_eq (tgt := 1787) C dL_law_1782 (by decide) (fun c_218 => ?_) (fun c_218 => ?_)
                                                            · replace h := it_t c_218 h
                                                              refine g_goto (tgt := 2281) C dL_law_1787 (by decide) ?_
                                                              refine g_iinc (q := 7) (v := v5 + (6 : Int32)) (lv' := [(5, .int (v5 + (6 : Int32))), (7, .int r_216), (6, .int r_215), (0, .ref b), (1, .ref (oa (gw Γ) 0)), (2, .ref (oa (gw Γ) 95)), (3, .ref (oa (gw Γ) 108)), (4, .ref (oa (gw Γ) 109))]) C dL_law_2281 rfl rfl (by decide) rfl ?_
                                                              refine g_goto (tgt := 28) C dL_law_2284 (by decide) ?_
                                                              refine g_sub [3, 4, 5, 6, 7, 0] rfl ?_
                                                              exact hrec (v5 + (6 : Int32)) m_217 _ (by omega) h
                                                            · replace h := it_f c_218 h
                                                              cases h
                                                        · replace h := it_f c_220 h
                                                          cases h
                                                      · replace h := it_f c_221 h
                                                        by_cases c_230 : ((xs v5.toNatClampNeg) &&& (63 : Int32)) = (26 : Int32)
                                                        · replace h := it_t c_230 h
                                                          refine g_tin (tgt := 1790) (off := 1745) C dL_law_45 (by rw [c_230]; decide) (by rw [c_230]; decide) (by rw [c_230]; rfl) (by decide) ?_
                                                          refine g_aload_n C dL_law_1790 1 rfl rfl ?_
                                                          refine g_aload_n C dL_law_1791 0 rfl rfl ?_
                                                          refine g_iload C dL_law_1792 5 rfl ?_
                                                          refine g_iconst (v := (1 : Int32)) C dL_law_1794 (by decide) ?_
                                                          refine g_iadd C dL_law_1795 ?_
                                                          obtain ⟨g_222, h⟩ := gd_some h
                                                          refine g_sld C S dL_law_1796 g_222 ?_
                                                          refine g_aload_n C dL_law_1797 0 rfl rfl ?_
                                                          refine g_iload C dL_law_1798 5 rfl ?_
                                                          refine g_iconst (v := (2 : Int32)) C dL_law_1800 (by decide) ?_
                                                          refine g_iadd C dL_law_1801 ?_
                                                          obtain ⟨g_223, h⟩ := gd_some h
                                                          refine g_sld C S dL_law_1802 g_223 ?_
                                                          refine g_aload_n C dL_law_1803 3 rfl rfl ?_
                                                          obtain ⟨r_224, m_224, hk_224, h⟩ := b2_some h
                                                          refine g_wI (As := [.ref (oa (gw Γ) 0), .int (xs (v5 + (1 : Int32)).toNatClampNeg), .int (xs (v5 + (2 : Int32)).toNatClampNeg), .ref (oa (gw Γ) 108)]) (mc' := 2) C dL_law_1804 mf_L_amount k_1110 ⟨by decide, by decide⟩ rfl rfl (Nat.le_of_ble_eq_true rfl) (by omega) (c_L_amount N (gl Γ) C.2.2.2.2 (gw Γ) (xs (v5 + (1 : Int32)).toNatClampNeg) (xs (v5 + (2 : Int32)).toNatClampNeg) m _ hk_224) ?_
                                                          refine g_istore (lv' := [(6, .int r_224), (0, .ref b), (1, .ref (oa (gw Γ) 0)), (2, .ref (oa (gw Γ) 95)), (3, .ref (oa (gw Γ) 108)), (4, .ref (oa (gw Γ) 109)), (5, .int v5)]) C dL_law_1807 (by decide) rfl ?_
                                                          refine g_aload_n C dL_law_1809 3 rfl rfl ?_
                                                          refine g_aload_n C dL_law_1810 1 rfl rfl ?_
                                                          refine g_iload C dL_law_1811 6 rfl ?_
                                                          refine g_iconst (v := (1 : Int32)) C dL_law_1813 (by decide) ?_
                                                          refine g_iadd C dL_law_1814 ?_
                                                          refine g_sld C S dL_law_1815 g_222 ?_
                                                          refine g_aload_n C dL_law_1816 1 rfl rfl ?_
                                                          refine g_iload C dL_law_1817 6 rfl ?_
                                                          refine g_iconst (v := (2 : Int32)) C dL_law_1819 (by decide) ?_
                                                          refine g_iadd C dL_law_1820 ?_
                                                          refine g_sld C S dL_law_1821 g_223 ?_
                                                          obtain ⟨r_225, m_225, hk_225, h⟩ := b2_some h
                                                          refine g_vI (As := [.int (xs (v5 + (1 : Int32)).toNatClampNeg), .int (xs (v5 + (2 : Int32)).toNatClampNeg)]) (a := 95) (ci := 10) C dL_law_1822 mf_X10_amount k_1111 rfl (by decide) ⟨by decide, by decide⟩ rfl rfl (Nat.le_of_ble_eq_true rfl) (by omega) rfl (c_X10_amount N (gl Γ) C.2.2.2.2 (gw Γ) (xs (v5 + (1 : Int32)).toNatClampNeg) (xs (v5 + (2 : Int32)).toNatClampNeg) m_224 _ hk_225) ?_
                                                          refine g_istore (lv' := [(7, .int r_225), (6, .int r_224), (0, .ref b), (1, .ref (oa (gw Γ) 0)), (2, .ref (oa (gw Γ) 95)), (3, .ref (oa (gw Γ) 108)), (4, .ref (oa (gw Γ) 109)), (5, .int v5)]) C dL_law_1825 (by decide) rfl ?_
                                                          refine g_aload_n C dL_law_1827 4 rfl rfl ?_
                                                          obtain ⟨r_226, m_226, hk_226, h⟩ := b2_some h
                                                          refine g_vI (As := []) (a := 95) (ci := 10) C dL_law_1828 mf_X10_thrown k_975 rfl (by decide) ⟨by decide, by decide⟩ rfl rfl (Nat.le_of_ble_eq_true rfl) (by omega) rfl (c_X10_thrown N (gl Γ) C.2.2.2.2 (gw Γ)  m_225 _ hk_226) ?_
                                                          refine g_iload C dL_law_1831 1 rfl ?_
                                                          refine g_icmp_eq (tgt := 1838) C dL_law_1833 (by decide) (fun c_229 => ?_) (fun c_229 => ?_)
                                                          · replace h := it_t c_229 h
                                                            refine g_iload C dL_law_1838 1 rfl ?_
                                                            refine g_if_ne (tgt := 1855) C dL_law_1840 (by decide) (fun c_228 => ?_) (fun c_228 => ?_)
                                                            · replace h := it_f c_228 h
                                                              refine g_goto (tgt := 2281) C dL_law_1855 (by decide) ?_
                                                              refine g_iinc (q := 7) (v := v5 + (6 : Int32)) (lv' := [(5, .int (v5 + (6 : Int32))), (7, .int r_225), (6, .int r_224), (0, .ref b), (1, .ref (oa (gw Γ) 0)), (2, .ref (oa (gw Γ) 95)), (3, .ref (oa (gw Γ) 108)), (4, .ref (oa (gw Γ) 109))]) C dL_law_2281 rfl rfl (by decide) rfl ?_
                                                              refine g_goto (tgt := 28) C dL_law_2284 (by decide) ?_
                                                              refine g_sub [3, 4, 5, 6, 7, 0] rfl ?_
                                                              exact hrec (v5 + (6 : Int32)) m_226 _ (by omega) h
                                                            · replace h := it_t c_228 h
                                                              refine g_aload_n C dL_law_1843 5 rfl rfl ?_
                                                              refine g_iconst (v := (0 : Int32)) C dL_law_1844 (by decide) ?_
                                                              refine g_lald' (j := 0) C dL_law_1845 (okA_of rfl rfl (by decide)) (by decide) ?_
                                                              refine g_iload C dL_law_1846 0 rfl ?_
                                                              refine g_i2l C dL_law_1848 ?_
                                                              refine g_lcmp C dL_law_1849 ?_
                                                              refine g_if_eq (tgt := 1855) C dL_law_1850 (by decide) (fun c_227 => ?_) (fun c_227 => ?_)
                                                              · replace h := it_t c_227 h
                                                                refine g_goto (tgt := 2281) C dL_law_1855 (by decide) ?_
                                                                refine g_iinc (q := 7) (v := v5 + (6 : Int32)) (lv' := [(5, .int (v5 + (6 : Int32))), (7, .int r_225), (6, .int r_224), (0, .ref b), (1, .ref (oa (gw Γ) 0)), (2, .ref (oa (gw Γ) 95)), (3, .ref (oa (gw Γ) 108)), (4, .ref (oa (gw Γ) 109))]) C dL_law_2281 rfl rfl (by decide) rfl ?_
                                                                refine g_goto (tgt := 28) C dL_law_2284 (by decide) ?_
                                                                refine g_sub [3, 4, 5, 6, 7, 0] rfl ?_
                                                                exact hrec (v5 + (6 : Int32)) m_226 _ (by omega) h
                                                              · replace h := it_f c_227 h
                                                                cases h
                                                          · replace h := it_f c_229 h
                                                            cases h
                                                        · replace h := it_f c_230 h
                                                          by_cases c_239 : ((xs v5.toNatClampNeg) &&& (63 : Int32)) = (27 : Int32)
                                                          · replace h := it_t c_239 h
                                                            refine g_tin (tgt := 1858) (off := 1813) C dL_law_45 (by rw [c_239]; decide) (by rw [c_239]; decide) (by rw [c_239]; rfl) (by decide) ?_
                                                            refine g_aload_n C dL_law_1858 1 rfl rfl ?_
                                                            refine g_aload_n C dL_law_1859 0 rfl rfl ?_
                                                            refine g_iload C dL_law_1860 5 rfl ?_
                                                            refine g_iconst (v := (1 : Int32)) C dL_law_1862 (by decide) ?_
                                                            refine g_iadd C dL_law_1863 ?_
                                                            obtain ⟨g_231, h⟩ := gd_some h
                                                            refine g_sld C S dL_law_1864 g_231 ?_
                                                            refine g_aload_n C dL_law_1865 0 rfl rfl ?_
                                                            refine g_iload C dL_law_1866 5 rfl ?_
                                                            refine g_iconst (v := (2 : Int32)) C dL_law_1868 (by decide) ?_
                                                            refine g_iadd C dL_law_1869 ?_
                                                            obtain ⟨g_232, h⟩ := gd_some h
                                                            refine g_sld C S dL_law_1870 g_232 ?_
                                                            refine g_aload_n C dL_law_1871 3 rfl rfl ?_
                                                            obtain ⟨r_233, m_233, hk_233, h⟩ := b2_some h
                                                            refine g_wI (As := [.ref (oa (gw Γ) 0), .int (xs (v5 + (1 : Int32)).toNatClampNeg), .int (xs (v5 + (2 : Int32)).toNatClampNeg), .ref (oa (gw Γ) 108)]) (mc' := 2) C dL_law_1872 mf_L_left k_1115 ⟨by decide, by decide⟩ rfl rfl (Nat.le_of_ble_eq_true rfl) (by omega) (c_L_left N (gl Γ) C.2.2.2.2 (gw Γ) (xs (v5 + (1 : Int32)).toNatClampNeg) (xs (v5 + (2 : Int32)).toNatClampNeg) m _ hk_233) ?_
                                                            refine g_istore (lv' := [(6, .int r_233), (0, .ref b), (1, .ref (oa (gw Γ) 0)), (2, .ref (oa (gw Γ) 95)), (3, .ref (oa (gw Γ) 108)), (4, .ref (oa (gw Γ) 109)), (5, .int v5)]) C dL_law_1875 (by decide) rfl ?_
                                                            refine g_aload_n C dL_law_1877 3 rfl rfl ?_
                                                            refine g_aload_n C dL_law_1878 1 rfl rfl ?_
                                                            refine g_iload C dL_law_1879 6 rfl ?_
                                                            refine g_iconst (v := (1 : Int32)) C dL_law_1881 (by decide) ?_
                                                            refine g_iadd C dL_law_1882 ?_
                                                            refine g_sld C S dL_law_1883 g_231 ?_
                                                            refine g_aload_n C dL_law_1884 1 rfl rfl ?_
                                                            refine g_iload C dL_law_1885 6 rfl ?_
                                                            refine g_iconst (v := (2 : Int32)) C dL_law_1887 (by decide) ?_
                                                            refine g_iadd C dL_law_1888 ?_
                                                            refine g_sld C S dL_law_1889 g_232 ?_
                                                            obtain ⟨r_234, m_234, hk_234, h⟩ := b2_some h
                                                            refine g_vI (As := [.int (xs (v5 + (1 : Int32)).toNatClampNeg), .int (xs (v5 + (2 : Int32)).toNatClampNeg)]) (a := 95) (ci := 10) C dL_law_1890 mf_X10_left k_1116 rfl (by decide) ⟨by decide, by decide⟩ rfl rfl (Nat.le_of_ble_eq_true rfl) (by omega) rfl (c_X10_left N (gl Γ) C.2.2.2.2 (gw Γ) (xs (v5 + (1 : Int32)).toNatClampNeg) (xs (v5 + (2 : Int32)).toNatClampNeg) m_233 _ hk_234) ?_
                                                            refine g_istore (lv' := [(7, .int r_234), (6, .int r_233), (0, .ref b), (1, .ref (oa (gw Γ) 0)), (2, .ref (oa (gw Γ) 95)), (3, .ref (oa (gw Γ) 108)), (4, .ref (oa (gw Γ) 109)), (5, .int v5)]) C dL_law_1893 (by decide) rfl ?_
                                                            refine g_aload_n C dL_law_1895 4 rfl rfl ?_
                                                            obtain ⟨r_235, m_235, hk_235, h⟩ := b2_some h
                                                            refine g_vI (As := []) (a := 95) (ci := 10) C dL_law_1896 mf_X10_thrown k_975 rfl (by decide) ⟨by decide, by decide⟩ rfl rfl (Nat.le_of_ble_eq_true rfl) (by omega) rfl (c_X10_thrown N (gl Γ) C.2.2.2.2 (gw Γ)  m_234 _ hk_235) ?_
                                                            refine g_iload C dL_law_1899 1 rfl ?_
                                                            refine g_icmp_eq (tgt := 1906) C dL_law_1901 (by decide) (fun c_238 => ?_) (fun c_238 => ?_)
                                                            · replace h := it_t c_238 h
                                                              refine g_iload C dL_law_1906 1 rfl ?_
                                                              refine g_if_ne (tgt := 1923) C dL_law_1908 (by decide) (fun c_237 => ?_) (fun c_237 => ?_)
                                                              · replace h := it_f c_237 h
                                                                refine g_goto (tgt := 2281) C dL_law_1923 (by decide) ?_
                                                                refine g_iinc (q := 7) (v := v5 + (6 : Int32)) (lv' := [(5, .int (v5 + (6 : Int32))), (7, .int r_234), (6, .int r_233), (0, .ref b), (1, .ref (oa (gw Γ) 0)), (2, .ref (oa (gw Γ) 95)), (3, .ref (oa (gw Γ) 108)), (4, .ref (oa (gw Γ) 109))]) C dL_law_2281 rfl rfl (by decide) rfl ?_
                                                                refine g_goto (tgt := 28) C dL_law_2284 (by decide) ?_
                                                                refine g_sub [3, 4, 5, 6, 7, 0] rfl ?_
                                                                exact hrec (v5 + (6 : Int32)) m_235 _ (by omega) h
                                                              · replace h := it_t c_237 h
                                                                refine g_aload_n C dL_law_1911 5 rfl rfl ?_
                                                                refine g_iconst (v := (0 : Int32)) C dL_law_1912 (by decide) ?_
                                                                refine g_lald' (j := 0) C dL_law_1913 (okA_of rfl rfl (by decide)) (by decide) ?_
                                                                refine g_iload C dL_law_1914 0 rfl ?_
                                                                refine g_i2l C dL_law_1916 ?_
                                                                refine g_lcmp C dL_law_1917 ?_
                                                                refine g_if_eq (tgt := 1923) C dL_law_1918 (by decide) (fun c_236 => ?_) (fun c_236 => ?_)
                                                                · replace h := it_t c_236 h
                                                                  refine g_goto (tgt := 2281) C dL_law_1923 (by decide) ?_
                                                                  refine g_iinc (q := 7) (v := v5 + (6 : Int32)) (lv' := [(5, .int (v5 + (6 : Int32))), (7, .int r_234), (6, .int r_233), (0, .ref b), (1, .ref (oa (gw Γ) 0)), (2, .ref (oa (gw Γ) 95)), (3, .ref (oa (gw Γ) 108)), (4, .ref (oa (gw Γ) 109))]) C dL_law_2281 rfl rfl (by decide) rfl ?_
                                                                  refine g_goto (tgt := 28) C dL_law_2284 (by decide) ?_
                                                                  refine g_sub [3, 4, 5, 6, 7, 0] rfl ?_
                                                                  exact hrec (v5 + (6 : Int32)) m_235 _ (by omega) h
                                                                · replace h := it_f c_236 h
                                                                  cases h
                                                            · replace h := it_f c_238 h
                                                              cases h
                                                          · replace h := it_f c_239 h
                                                            by_cases c_247 : ((xs v5.toNatClampNeg) &&& (63 : Int32)) = (28 : Int32)
                                                            · replace h := it_t c_247 h
                                                              refine g_tin (tgt := 1926) (off := 1881) C dL_law_45 (by rw [c_247]; decide) (by rw [c_247]; decide) (by rw [c_247]; rfl) (by decide) ?_
                                                              refine g_aload_n C dL_law_1926 1 rfl rfl ?_
                                                              refine g_aload_n C dL_law_1927 0 rfl rfl ?_
                                                              refine g_iload C dL_law_1928 5 rfl ?_
                                                              refine g_iconst (v := (1 : Int32)) C dL_law_1930 (by decide) ?_
                                                              refine g_iadd C dL_law_1931 ?_
                                                              obtain ⟨g_240, h⟩ := gd_some h
                                                              refine g_sld C S dL_law_1932 g_240 ?_
                                                              refine g_aload_n C dL_law_1933 3 rfl rfl ?_
                                                              obtain ⟨r_241, m_241, hk_241, h⟩ := b2_some h
                                                              refine g_wI (As := [.ref (oa (gw Γ) 0), .int (xs (v5 + (1 : Int32)).toNatClampNeg), .ref (oa (gw Γ) 108)]) (mc' := 1) C dL_law_1934 mf_L_poolLeft k_1120 ⟨by decide, by decide⟩ rfl rfl (Nat.le_of_ble_eq_true rfl) (by omega) (c_L_poolLeft N (gl Γ) C.2.2.2.2 (gw Γ) (xs (v5 + (1 : Int32)).toNatClampNeg) m _ hk_241) ?_
                                                              refine g_istore (lv' := [(6, .int r_241), (0, .ref b), (1, .ref (oa (gw Γ) 0)), (2, .ref (oa (gw Γ) 95)), (3, .ref (oa (gw Γ) 108)), (4, .ref (oa (gw Γ) 109)), (5, .int v5)]) C dL_law_1937 (by decide) rfl ?_
                                                              refine g_aload_n C dL_law_1939 3 rfl rfl ?_
                                                              refine g_aload_n C dL_law_1940 1 rfl rfl ?_
                                                              refine g_iload C dL_law_1941 6 rfl ?_
                                                              refine g_iconst (v := (1 : Int32)) C dL_law_1943 (by decide) ?_
                                                              refine g_iadd C dL_law_1944 ?_
                                                              refine g_sld C S dL_law_1945 g_240 ?_
                                                              obtain ⟨r_242, m_242, hk_242, h⟩ := b2_some h
                                                              refine g_vI (As := [.int (xs (v5 + (1 : Int32)).toNatClampNeg)]) (a := 95) (ci := 10) C dL_law_1946 mf_X10_poolLeft k_1121 rfl (by decide) ⟨by decide, by decide⟩ rfl rfl (Nat.le_of_ble_eq_true rfl) (by omega) rfl (c_X10_poolLeft N (gl Γ) C.2.2.2.2 (gw Γ) (xs (v5 + (1 : Int32)).toNatClampNeg) m_241 _ hk_242) ?_
                                                              refine g_istore (lv' := [(7, .int r_242), (6, .int r_241), (0, .ref b), (1, .ref (oa (gw Γ) 0)), (2, .ref (oa (gw Γ) 95)), (3, .ref (oa (gw Γ) 108)), (4, .ref (oa (gw Γ) 109)), (5, .int v5)]) C dL_law_1949 (by decide) rfl ?_
                                                              refine g_aload_n C dL_law_1951 4 rfl rfl ?_
                                                              obtain ⟨r_243, m_243, hk_243, h⟩ := b2_some h
                                                              refine g_vI (As := []) (a := 95) (ci := 10) C dL_law_1952 mf_X10_thrown k_975 rfl (by decide) ⟨by decide, by decide⟩ rfl rfl (Nat.le_of_ble_eq_true rfl) (by omega) rfl (c_X10_thrown N (gl Γ) C.2.2.2.2 (gw Γ)  m_242 _ hk_243) ?_
                                                              refine g_iload C dL_law_1955 1 rfl ?_
                                                              refine g_icmp_eq (tgt := 1962) C dL_law_1957 (by decide) (fun c_246 => ?_) (fun c_246 => ?_)
                                                              · replace h := it_t c_246 h
                                                                refine g_iload C dL_law_1962 1 rfl ?_
                                                                refine g_if_ne (tgt := 1979) C dL_law_1964 (by decide) (fun c_245 => ?_) (fun c_245 => ?_)
                                                                · replace h := it_f c_245 h
                                                                  refine g_goto (tgt := 2281) C dL_law_1979 (by decide) ?_
                                                                  refine g_iinc (q := 7) (v := v5 + (6 : Int32)) (lv' := [(5, .int (v5 + (6 : Int32))), (7, .int r_242), (6, .int r_241), (0, .ref b), (1, .ref (oa (gw Γ) 0)), (2, .ref (oa (gw Γ) 95)), (3, .ref (oa (gw Γ) 108)), (4, .ref (oa (gw Γ) 109))]) C dL_law_2281 rfl rfl (by decide) rfl ?_
                                                                  refine g_goto (tgt := 28) C dL_law_2284 (by decide) ?_
                                                                  refine g_sub [3, 4, 5, 6, 7, 0] rfl ?_
                                                                  exact hrec (v5 + (6 : Int32)) m_243 _ (by omega) h
                                                                · replace h := it_t c_245 h
                                                                  refine g_aload_n C dL_law_1967 5 rfl rfl ?_
                                                                  refine g_iconst (v := (0 : Int32)) C dL_law_1968 (by decide) ?_
                                                                  refine g_lald' (j := 0) C dL_law_1969 (okA_of rfl rfl (by decide)) (by decide) ?_
                                                                  refine g_iload C dL_law_1970 0 rfl ?_
                                                                  refine g_i2l C dL_law_1972 ?_
                                                                  refine g_lcmp C dL_law_1973 ?_
                                                                  refine g_if_eq (tgt := 1979) C dL_law_1974 (by decide) (fun c_244 => ?_) (fun c_244 => ?_)
                                                                  · replace h := it_t c_244 h
                                                                    refine g_goto (tgt := 2281) C dL_law_1979 (by decide) ?_
                                                                    refine g_iinc (q := 7) (v := v5 + (6 : Int32)) (lv' := [(5, .int (v5 + (6 : Int32))), (7, .int r_242), (6, .int r_241), (0, .ref b), (1, .ref (oa (gw Γ) 0)), (2, .ref (oa (gw Γ) 95)), (3, .ref (oa (gw Γ) 108)), (4, .ref (oa (gw Γ) 109))]) C dL_law_2281 rfl rfl (by decide) rfl ?_
                                                                    refine g_goto (tgt := 28) C dL_law_2284 (by decide) ?_
                                                                    refine g_sub [3, 4, 5, 6, 7, 0] rfl ?_
                                                                    exact hrec (v5 + (6 : Int32)) m_243 _ (by omega) h
                                                                  · replace h := it_f c_244 h
                                                                    cases h
                                                              · replace h := it_f c_246 h
                                                                cases h
                                                            · replace h := it_f c_247 h
                                                              by_cases c_255 : ((xs v5.toNatClampNeg) &&& (63 : Int32)) = (29 : Int32)
                                                              · replace h := it_t c_255 h
                                                                refine g_tin (tgt := 1982) (off := 1937) C dL_law_45 (by rw [c_255]; decide) (by rw [c_255]; decide) (by rw [c_255]; rfl) (by decide) ?_
                                                                refine g_aload_n C dL_law_1982 1 rfl rfl ?_
                                                                refine g_aload_n C dL_law_1983 0 rfl rfl ?_
                                                                refine g_iload C dL_law_1984 5 rfl ?_
                                                                refine g_iconst (v := (1 : Int32)) C dL_law_1986 (by decide) ?_
                                                                refine g_iadd C dL_law_1987 ?_
                                                                obtain ⟨g_248, h⟩ := gd_some h
                                                                refine g_sld C S dL_law_1988 g_248 ?_
                                                                refine g_aload_n C dL_law_1989 3 rfl rfl ?_
                                                                obtain ⟨r_249, m_249, hk_249, h⟩ := b2_some h
                                                                refine g_wI (As := [.ref (oa (gw Γ) 0), .int (xs (v5 + (1 : Int32)).toNatClampNeg), .ref (oa (gw Γ) 108)]) (mc' := 1) C dL_law_1990 mf_L_funded k_1125 ⟨by decide, by decide⟩ rfl rfl (Nat.le_of_ble_eq_true rfl) (by omega) (c_L_funded N (gl Γ) C.2.2.2.2 (gw Γ) (xs (v5 + (1 : Int32)).toNatClampNeg) m _ hk_249) ?_
                                                                refine g_istore (lv' := [(6, .int r_249), (0, .ref b), (1, .ref (oa (gw Γ) 0)), (2, .ref (oa (gw Γ) 95)), (3, .ref (oa (gw Γ) 108)), (4, .ref (oa (gw Γ) 109)), (5, .int v5)]) C dL_law_1993 (by decide) rfl ?_
                                                                refine g_aload_n C dL_law_1995 3 rfl rfl ?_
                                                                refine g_aload_n C dL_law_1996 1 rfl rfl ?_
                                                                refine g_iload C dL_law_1997 6 rfl ?_
                                                                refine g_iconst (v := (1 : Int32)) C dL_law_1999 (by decide) ?_
                                                                refine g_iadd C dL_law_2000 ?_
                                                                refine g_sld C S dL_law_2001 g_248 ?_
                                                                obtain ⟨r_250, m_250, hk_250, h⟩ := b2_some h
                                                                refine g_vI (As := [.int (xs (v5 + (1 : Int32)).toNatClampNeg)]) (a := 95) (ci := 10) C dL_law_2002 mf_X10_funded k_1126 rfl (by decide) ⟨by decide, by decide⟩ rfl rfl (Nat.le_of_ble_eq_true rfl) (by omega) rfl (c_X10_funded N (gl Γ) C.2.2.2.2 (gw Γ) (xs (v5 + (1 : Int32)).toNatClampNeg) m_249 _ hk_250) ?_
                                                                refine g_istore (lv' := [(7, .int r_250), (6, .int r_249), (0, .ref b), (1, .ref (oa (gw Γ) 0)), (2, .ref (oa (gw Γ) 95)), (3, .ref (oa (gw Γ) 108)), (4, .ref (oa (gw Γ) 109)), (5, .int v5)]) C dL_law_2005 (by decide) rfl ?_
                                                                refine g_aload_n C dL_law_2007 4 rfl rfl ?_
                                                                obtain ⟨r_251, m_251, hk_251, h⟩ := b2_some h
                                                                refine g_vI (As := []) (a := 95) (ci := 10) C dL_law_2008 mf_X10_thrown k_975 rfl (by decide) ⟨by decide, by decide⟩ rfl rfl (Nat.le_of_ble_eq_true rfl) (by omega) rfl (c_X10_thrown N (gl Γ) C.2.2.2.2 (gw Γ)  m_250 _ hk_251) ?_
                                                                refine g_iload C dL_law_2011 1 rfl ?_
                                                                refine g_icmp_eq (tgt := 2018) C dL_law_2013 (by decide) (fun c_254 => ?_) (fun c_254 => ?_)
                                                                · replace h := it_t c_254 h
                                                                  refine g_iload C dL_law_2018 1 rfl ?_
                                                                  refine g_if_ne (tgt := 2035) C dL_law_2020 (by decide) (fun c_253 => ?_) (fun c_253 => ?_)
                                                                  · replace h := it_f c_253 h
                                                                    refine g_goto (tgt := 2281) C dL_law_2035 (by decide) ?_
                                                                    refine g_iinc (q := 7) (v := v5 + (6 : Int32)) (lv' := [(5, .int (v5 + (6 : Int32))), (7, .int r_250), (6, .int r_249), (0, .ref b), (1, .ref (oa (gw Γ) 0)), (2, .ref (oa (gw Γ) 95)), (3, .ref (oa (gw Γ) 108)), (4, .ref (oa (gw Γ) 109))]) C dL_law_2281 rfl rfl (by decide) rfl ?_
                                                                    refine g_goto (tgt := 28) C dL_law_2284 (by decide) ?_
                                                                    refine g_sub [3, 4, 5, 6, 7, 0] rfl ?_
                                                                    exact hrec (v5 + (6 : Int32)) m_251 _ (by omega) h
                                                                  · replace h := it_t c_253 h
                                                                    refine g_aload_n C dL_law_2023 5 rfl rfl ?_
                                                                    refine g_iconst (v := (0 : Int32)) C dL_law_2024 (by decide) ?_
                                                                    refine g_lald' (j := 0) C dL_law_2025 (okA_of rfl rfl (by decide)) (by decide) ?_
                                                                    refine g_iload C dL_law_2026 0 rfl ?_
                                                                    refine g_i2l C dL_law_2028 ?_
                                                                    refine g_lcmp C dL_law_2029 ?_
                                                                    refine g_if_eq (tgt := 2035) C dL_law_2030 (by decide) (fun c_252 => ?_) (fun c_252 => ?_)
                                                                    · replace h := it_t c_252 h
                                                                      refine g_goto (tgt := 2281) C dL_law_2035 (by decide) ?_
                                                                      refine g_iinc (q := 7) (v := v5 + (6 : Int32)) (lv' := [(5, .int (v5 + (6 : Int32))), (7, .int r_250), (6, .int r_249), (0, .ref b), (1, .ref (oa (gw Γ) 0)), (2, .ref (oa (gw Γ) 95)), (3, .ref (oa (gw Γ) 108)), (4, .ref (oa (gw Γ) 109))]) C dL_law_2281 rfl rfl (by decide) rfl ?_
                                                                      refine g_goto (tgt := 28) C dL_law_2284 (by decide) ?_
                                                                      refine g_sub [3, 4, 5, 6, 7, 0] rfl ?_
                                                                      exact hrec (v5 + (6 : Int32)) m_251 _ (by omega) h
                                                                    · replace h := it_f c_252 h
                                                                      cases h
                                                                · replace h := it_f c_254 h
                                                                  cases h
                                                              · replace h := it_f c_255 h
                                                                by_cases c_263 : ((xs v5.toNatClampNeg) &&& (63 : Int32)) = (30 : Int32)
                                                                · replace h := it_t c_263 h
                                                                  refine g_tin (tgt := 2038) (off := 1993) C dL_law_45 (by rw [c_263]; decide) (by rw [c_263]; decide) (by rw [c_263]; rfl) (by decide) ?_
                                                                  refine g_aload_n C dL_law_2038 1 rfl rfl ?_
                                                                  refine g_aload_n C dL_law_2039 0 rfl rfl ?_
                                                                  refine g_iload C dL_law_2040 5 rfl ?_
                                                                  refine g_iconst (v := (1 : Int32)) C dL_law_2042 (by decide) ?_
                                                                  refine g_iadd C dL_law_2043 ?_
                                                                  obtain ⟨g_256, h⟩ := gd_some h
                                                                  refine g_sld C S dL_law_2044 g_256 ?_
                                                                  refine g_aload_n C dL_law_2045 3 rfl rfl ?_
                                                                  obtain ⟨r_257, m_257, hk_257, h⟩ := b2_some h
                                                                  refine g_wI (As := [.ref (oa (gw Γ) 0), .int (xs (v5 + (1 : Int32)).toNatClampNeg), .ref (oa (gw Γ) 108)]) (mc' := 1) C dL_law_2046 mf_L_bestSum k_1130 ⟨by decide, by decide⟩ rfl rfl (Nat.le_of_ble_eq_true rfl) (by omega) (c_L_bestSum N (gl Γ) C.2.2.2.2 (gw Γ) (xs (v5 + (1 : Int32)).toNatClampNeg) m _ hk_257) ?_
                                                                  refine g_istore (lv' := [(6, .int r_257), (0, .ref b), (1, .ref (oa (gw Γ) 0)), (2, .ref (oa (gw Γ) 95)), (3, .ref (oa (gw Γ) 108)), (4, .ref (oa (gw Γ) 109)), (5, .int v5)]) C dL_law_2049 (by decide) rfl ?_
                                                                  refine g_aload_n C dL_law_2051 3 rfl rfl ?_
                                                                  refine g_aload_n C dL_law_2052 1 rfl rfl ?_
                                                                  refine g_iload C dL_law_2053 6 rfl ?_
                                                                  refine g_iconst (v := (1 : Int32)) C dL_law_2055 (by decide) ?_
                                                                  refine g_iadd C dL_law_2056 ?_
                                                                  refine g_sld C S dL_law_2057 g_256 ?_
                                                                  obtain ⟨r_258, m_258, hk_258, h⟩ := b2_some h
                                                                  refine g_vI (As := [.int (xs (v5 + (1 : Int32)).toNatClampNeg)]) (a := 95) (ci := 10) C dL_law_2058 mf_X10_bestSum k_1131 rfl (by decide) ⟨by decide, by decide⟩ rfl rfl (Nat.le_of_ble_eq_true rfl) (by omega) rfl (c_X10_bestSum N (gl Γ) C.2.2.2.2 (gw Γ) (xs (v5 + (1 : Int32)).toNatClampNeg) m_257 _ hk_258) ?_
                                                                  refine g_istore (lv' := [(7, .int r_258), (6, .int r_257), (0, .ref b), (1, .ref (oa (gw Γ) 0)), (2, .ref (oa (gw Γ) 95)), (3, .ref (oa (gw Γ) 108)), (4, .ref (oa (gw Γ) 109)), (5, .int v5)]) C dL_law_2061 (by decide) rfl ?_
                                                                  refine g_aload_n C dL_law_2063 4 rfl rfl ?_
                                                                  obtain ⟨r_259, m_259, hk_259, h⟩ := b2_some h
                                                                  refine g_vI (As := []) (a := 95) (ci := 10) C dL_law_2064 mf_X10_thrown k_975 rfl (by decide) ⟨by decide, by decide⟩ rfl rfl (Nat.le_of_ble_eq_true rfl) (by omega) rfl (c_X10_thrown N (gl Γ) C.2.2.2.2 (gw Γ)  m_258 _ hk_259) ?_
                                                                  refine g_iload C dL_law_2067 1 rfl ?_
                                                                  refine g_icmp_eq (tgt := 2074) C dL_law_2069 (by decide) (fun c_262 => ?_) (fun c_262 => ?_)
                                                                  · replace h := it_t c_262 h
                                                                    refine g_iload C dL_law_2074 1 rfl ?_
                                                                    refine g_if_ne (tgt := 2091) C dL_law_2076 (by decide) (fun c_261 => ?_) (fun c_261 => ?_)
                                                                    · replace h := it_f c_261 h
                                                                      refine g_goto (tgt := 2281) C dL_law_2091 (by decide) ?_
                                                                      refine g_iinc (q := 7) (v := v5 + (6 : Int32)) (lv' := [(5, .int (v5 + (6 : Int32))), (7, .int r_258), (6, .int r_257), (0, .ref b), (1, .ref (oa (gw Γ) 0)), (2, .ref (oa (gw Γ) 95)), (3, .ref (oa (gw Γ) 108)), (4, .ref (oa (gw Γ) 109))]) C dL_law_2281 rfl rfl (by decide) rfl ?_
                                                                      refine g_goto (tgt := 28) C dL_law_2284 (by decide) ?_
                                                                      refine g_sub [3, 4, 5, 6, 7, 0] rfl ?_
                                                                      exact hrec (v5 + (6 : Int32)) m_259 _ (by omega) h
                                                                    · replace h := it_t c_261 h
                                                                      refine g_aload_n C dL_law_2079 5 rfl rfl ?_
                                                                      refine g_iconst (v := (0 : Int32)) C dL_law_2080 (by decide) ?_
                                                                      refine g_lald' (j := 0) C dL_law_2081 (okA_of rfl rfl (by decide)) (by decide) ?_
                                                                      refine g_iload C dL_law_2082 0 rfl ?_
                                                                      refine g_i2l C dL_law_2084 ?_
                                                                      refine g_lcmp C dL_law_2085 ?_
                                                                      refine g_if_eq (tgt := 2091) C dL_law_2086 (by decide) (fun c_260 => ?_) (fun c_260 => ?_)
                                                                      · replace h := it_t c_260 h
                                                                        refine g_goto (tgt := 2281) C dL_law_2091 (by decide) ?_
                                                                        refine g_iinc (q := 7) (v := v5 + (6 : Int32)) (lv' := [(5, .int (v5 + (6 : Int32))), (7, .int r_258), (6, .int r_257), (0, .ref b), (1, .ref (oa (gw Γ) 0)), (2, .ref (oa (gw Γ) 95)), (3, .ref (oa (gw Γ) 108)), (4, .ref (oa (gw Γ) 109))]) C dL_law_2281 rfl rfl (by decide) rfl ?_
                                                                        refine g_goto (tgt := 28) C dL_law_2284 (by decide) ?_
                                                                        refine g_sub [3, 4, 5, 6, 7, 0] rfl ?_
                                                                        exact hrec (v5 + (6 : Int32)) m_259 _ (by omega) h
                                                                      · replace h := it_f c_260 h
                                                                        cases h
                                                                  · replace h := it_f c_262 h
                                                                    cases h
                                                                · replace h := it_f c_263 h
                                                                  by_cases c_272 : ((xs v5.toNatClampNeg) &&& (63 : Int32)) = (31 : Int32)
                                                                  · replace h := it_t c_272 h
                                                                    refine g_tin (tgt := 2094) (off := 2049) C dL_law_45 (by rw [c_272]; decide) (by rw [c_272]; decide) (by rw [c_272]; rfl) (by decide) ?_
                                                                    refine g_aload_n C dL_law_2094 1 rfl rfl ?_
                                                                    refine g_aload_n C dL_law_2095 0 rfl rfl ?_
                                                                    refine g_iload C dL_law_2096 5 rfl ?_
                                                                    refine g_iconst (v := (1 : Int32)) C dL_law_2098 (by decide) ?_
                                                                    refine g_iadd C dL_law_2099 ?_
                                                                    obtain ⟨g_264, h⟩ := gd_some h
                                                                    refine g_sld C S dL_law_2100 g_264 ?_
                                                                    refine g_aload_n C dL_law_2101 0 rfl rfl ?_
                                                                    refine g_iload C dL_law_2102 5 rfl ?_
                                                                    refine g_iconst (v := (2 : Int32)) C dL_law_2104 (by decide) ?_
                                                                    refine g_iadd C dL_law_2105 ?_
                                                                    obtain ⟨g_265, h⟩ := gd_some h
                                                                    refine g_sld C S dL_law_2106 g_265 ?_
                                                                    refine g_aload_n C dL_law_2107 3 rfl rfl ?_
                                                                    obtain ⟨r_266, m_266, hk_266, h⟩ := b2_some h
                                                                    refine g_wI (As := [.ref (oa (gw Γ) 0), .int (xs (v5 + (1 : Int32)).toNatClampNeg), .int (xs (v5 + (2 : Int32)).toNatClampNeg), .ref (oa (gw Γ) 108)]) (mc' := 2) C dL_law_2108 mf_L_lineFor k_1135 ⟨by decide, by decide⟩ rfl rfl (Nat.le_of_ble_eq_true rfl) (by omega) (c_L_lineFor N (gl Γ) C.2.2.2.2 (gw Γ) (xs (v5 + (1 : Int32)).toNatClampNeg) (xs (v5 + (2 : Int32)).toNatClampNeg) m _ hk_266) ?_
                                                                    refine g_istore (lv' := [(6, .int r_266), (0, .ref b), (1, .ref (oa (gw Γ) 0)), (2, .ref (oa (gw Γ) 95)), (3, .ref (oa (gw Γ) 108)), (4, .ref (oa (gw Γ) 109)), (5, .int v5)]) C dL_law_2111 (by decide) rfl ?_
                                                                    refine g_aload_n C dL_law_2113 3 rfl rfl ?_
                                                                    refine g_aload_n C dL_law_2114 1 rfl rfl ?_
                                                                    refine g_iload C dL_law_2115 6 rfl ?_
                                                                    refine g_iconst (v := (1 : Int32)) C dL_law_2117 (by decide) ?_
                                                                    refine g_iadd C dL_law_2118 ?_
                                                                    refine g_sld C S dL_law_2119 g_264 ?_
                                                                    refine g_aload_n C dL_law_2120 1 rfl rfl ?_
                                                                    refine g_iload C dL_law_2121 6 rfl ?_
                                                                    refine g_iconst (v := (2 : Int32)) C dL_law_2123 (by decide) ?_
                                                                    refine g_iadd C dL_law_2124 ?_
                                                                    refine g_sld C S dL_law_2125 g_265 ?_
                                                                    obtain ⟨r_267, m_267, hk_267, h⟩ := b2_some h
                                                                    refine g_vI (As := [.int (xs (v5 + (1 : Int32)).toNatClampNeg), .int (xs (v5 + (2 : Int32)).toNatClampNeg)]) (a := 95) (ci := 10) C dL_law_2126 mf_X10_lineFor k_1136 rfl (by decide) ⟨by decide, by decide⟩ rfl rfl (Nat.le_of_ble_eq_true rfl) (by omega) rfl (c_X10_lineFor N (gl Γ) C.2.2.2.2 (gw Γ) (xs (v5 + (1 : Int32)).toNatClampNeg) (xs (v5 + (2 : Int32)).toNatClampNeg) m_266 _ hk_267) ?_
                                                                    refine g_istore (lv' := [(7, .int r_267), (6, .int r_266), (0, .ref b), (1, .ref (oa (gw Γ) 0)), (2, .ref (oa (gw Γ) 95)), (3, .ref (oa (gw Γ) 108)), (4, .ref (oa (gw Γ) 109)), (5, .int v5)]) C dL_law_2129 (by decide) rfl ?_
                                                                    refine g_aload_n C dL_law_2131 4 rfl rfl ?_
                                                                    obtain ⟨r_268, m_268, hk_268, h⟩ := b2_some h
                                                                    refine g_vI (As := []) (a := 95) (ci := 10) C dL_law_2132 mf_X10_thrown k_975 rfl (by decide) ⟨by decide, by decide⟩ rfl rfl (Nat.le_of_ble_eq_true rfl) (by omega) rfl (c_X10_thrown N (gl Γ) C.2.2.2.2 (gw Γ)  m_267 _ hk_268) ?_
                                                                    refine g_iload C dL_law_2135 1 rfl ?_
                                                                    refine g_icmp_eq (tgt := 2142) C dL_law_2137 (by decide) (fun c_271 => ?_) (fun c_271 => ?_)
                                                                    · replace h := it_t c_271 h
                                                                      refine g_iload C dL_law_2142 1 rfl ?_
                                                                      refine g_if_ne (tgt := 2159) C dL_law_2144 (by decide) (fun c_270 => ?_) (fun c_270 => ?_)
                                                                      · replace h := it_f c_270 h
                                                                        refine g_goto (tgt := 2281) C dL_law_2159 (by decide) ?_
                                                                        refine g_iinc (q := 7) (v := v5 + (6 : Int32)) (lv' := [(5, .int (v5 + (6 : Int32))), (7, .int r_267), (6, .int r_266), (0, .ref b), (1, .ref (oa (gw Γ) 0)), (2, .ref (oa (gw Γ) 95)), (3, .ref (oa (gw Γ) 108)), (4, .ref (oa (gw Γ) 109))]) C dL_law_2281 rfl rfl (by decide) rfl ?_
                                                                        refine g_goto (tgt := 28) C dL_law_2284 (by decide) ?_
                                                                        refine g_sub [3, 4, 5, 6, 7, 0] rfl ?_
                                                                        exact hrec (v5 + (6 : Int32)) m_268 _ (by omega) h
                                                                      · replace h := it_t c_270 h
                                                                        refine g_aload_n C dL_law_2147 5 rfl rfl ?_
                                                                        refine g_iconst (v := (0 : Int32)) C dL_law_2148 (by decide) ?_
                                                                        refine g_lald' (j := 0) C dL_law_2149 (okA_of rfl rfl (by decide)) (by decide) ?_
                                                                        refine g_iload C dL_law_2150 0 rfl ?_
                                                                        refine g_i2l C dL_law_2152 ?_
                                                                        refine g_lcmp C dL_law_2153 ?_
                                                                        refine g_if_eq (tgt := 2159) C dL_law_2154 (by decide) (fun c_269 => ?_) (fun c_269 => ?_)
                                                                        · replace h := it_t c_269 h
                                                                          refine g_goto (tgt := 2281) C dL_law_2159 (by decide) ?_
                                                                          refine g_iinc (q := 7) (v := v5 + (6 : Int32)) (lv' := [(5, .int (v5 + (6 : Int32))), (7, .int r_267), (6, .int r_266), (0, .ref b), (1, .ref (oa (gw Γ) 0)), (2, .ref (oa (gw Γ) 95)), (3, .ref (oa (gw Γ) 108)), (4, .ref (oa (gw Γ) 109))]) C dL_law_2281 rfl rfl (by decide) rfl ?_
                                                                          refine g_goto (tgt := 28) C dL_law_2284 (by decide) ?_
                                                                          refine g_sub [3, 4, 5, 6, 7, 0] rfl ?_
                                                                          exact hrec (v5 + (6 : Int32)) m_268 _ (by omega) h
                                                                        · replace h := it_f c_269 h
                                                                          cases h
                                                                    · replace h := it_f c_271 h
                                                                      cases h
                                                                  · replace h := it_f c_272 h
                                                                    by_cases c_282 : ((xs v5.toNatClampNeg) &&& (63 : Int32)) = (32 : Int32)
                                                                    · replace h := it_t c_282 h
                                                                      refine g_tin (tgt := 2162) (off := 2117) C dL_law_45 (by rw [c_282]; decide) (by rw [c_282]; decide) (by rw [c_282]; rfl) (by decide) ?_
                                                                      refine g_aload_n C dL_law_2162 1 rfl rfl ?_
                                                                      refine g_aload_n C dL_law_2163 0 rfl rfl ?_
                                                                      refine g_iload C dL_law_2164 5 rfl ?_
                                                                      refine g_iconst (v := (1 : Int32)) C dL_law_2166 (by decide) ?_
                                                                      refine g_iadd C dL_law_2167 ?_
                                                                      obtain ⟨g_273, h⟩ := gd_some h
                                                                      refine g_sld C S dL_law_2168 g_273 ?_
                                                                      refine g_aload_n C dL_law_2169 0 rfl rfl ?_
                                                                      refine g_iload C dL_law_2170 5 rfl ?_
                                                                      refine g_iconst (v := (2 : Int32)) C dL_law_2172 (by decide) ?_
                                                                      refine g_iadd C dL_law_2173 ?_
                                                                      obtain ⟨g_274, h⟩ := gd_some h
                                                                      refine g_sld C S dL_law_2174 g_274 ?_
                                                                      refine g_aload_n C dL_law_2175 3 rfl rfl ?_
                                                                      obtain ⟨r_275, m_275, hk_275, h⟩ := b2_some h
                                                                      refine g_wI (As := [.ref (oa (gw Γ) 0), .int (xs (v5 + (1 : Int32)).toNatClampNeg), .int (xs (v5 + (2 : Int32)).toNatClampNeg), .ref (oa (gw Γ) 108)]) (mc' := 4) C dL_law_2176 mf_L_appeal k_1140 ⟨by decide, by decide⟩ rfl rfl (Nat.le_of_ble_eq_true rfl) (by omega) (c_L_appeal N (gl Γ) C.2.2.2.2 (gw Γ) (xs (v5 + (1 : Int32)).toNatClampNeg) (xs (v5 + (2 : Int32)).toNatClampNeg) m _ hk_275) ?_
                                                                      refine g_istore (lv' := [(6, .int r_275), (0, .ref b), (1, .ref (oa (gw Γ) 0)), (2, .ref (oa (gw Γ) 95)), (3, .ref (oa (gw Γ) 108)), (4, .ref (oa (gw Γ) 109)), (5, .int v5)]) C dL_law_2179 (by decide) rfl ?_
                                                                      refine g_aload_n C dL_law_2181 3 rfl rfl ?_
                                                                      refine g_aload_n C dL_law_2182 1 rfl rfl ?_
                                                                      refine g_iload C dL_law_2183 6 rfl ?_
                                                                      refine g_iconst (v := (1 : Int32)) C dL_law_2185 (by decide) ?_
                                                                      refine g_iadd C dL_law_2186 ?_
                                                                      refine g_sld C S dL_law_2187 g_273 ?_
                                                                      refine g_aload_n C dL_law_2188 1 rfl rfl ?_
                                                                      refine g_iload C dL_law_2189 6 rfl ?_
                                                                      refine g_iconst (v := (2 : Int32)) C dL_law_2191 (by decide) ?_
                                                                      refine g_iadd C dL_law_2192 ?_
                                                                      refine g_sld C S dL_law_2193 g_274 ?_
                                                                      obtain ⟨r_276, m_276, hk_276, h⟩ := b2_some h
                                                                      refine g_vI (As := [.int (xs (v5 + (1 : Int32)).toNatClampNeg), .int (xs (v5 + (2 : Int32)).toNatClampNeg)]) (a := 95) (ci := 10) C dL_law_2194 mf_X10_appeal k_1141 rfl (by decide) ⟨by decide, by decide⟩ rfl rfl (Nat.le_of_ble_eq_true rfl) (by omega) rfl (c_X10_appeal N (gl Γ) C.2.2.2.2 (gw Γ) (xs (v5 + (1 : Int32)).toNatClampNeg) (xs (v5 + (2 : Int32)).toNatClampNeg) m_275 _ hk_276) ?_
                                                                      refine g_istore (lv' := [(7, .int r_276), (6, .int r_275), (0, .ref b), (1, .ref (oa (gw Γ) 0)), (2, .ref (oa (gw Γ) 95)), (3, .ref (oa (gw Γ) 108)), (4, .ref (oa (gw Γ) 109)), (5, .int v5)]) C dL_law_2197 (by decide) rfl ?_
                                                                      refine g_aload_n C dL_law_2199 4 rfl rfl ?_
                                                                      obtain ⟨r_277, m_277, hk_277, h⟩ := b2_some h
                                                                      refine g_vI (As := []) (a := 95) (ci := 10) C dL_law_2200 mf_X10_thrown k_975 rfl (by decide) ⟨by decide, by decide⟩ rfl rfl (Nat.le_of_ble_eq_true rfl) (by omega) rfl (c_X10_thrown N (gl Γ) C.2.2.2.2 (gw Γ)  m_276 _ hk_277) ?_
                                                                      refine g_iload C dL_law_2203 1 rfl ?_
                                                                      refine g_icmp_eq (tgt := 2210) C dL_law_2205 (by decide) (fun c_281 => ?_) (fun c_281 => ?_)
                                                                      · replace h := it_t c_281 h
                                                                        refine g_iload C dL_law_2210 1 rfl ?_
                                                                        refine g_if_ne (tgt := 2234) C dL_law_2212 (by decide) (fun c_280 => ?_) (fun c_280 => ?_)
                                                                        · replace h := it_f c_280 h
                                                                          refine g_goto (tgt := 2281) C dL_law_2234 (by decide) ?_
                                                                          refine g_iinc (q := 7) (v := v5 + (6 : Int32)) (lv' := [(5, .int (v5 + (6 : Int32))), (7, .int r_276), (6, .int r_275), (0, .ref b), (1, .ref (oa (gw Γ) 0)), (2, .ref (oa (gw Γ) 95)), (3, .ref (oa (gw Γ) 108)), (4, .ref (oa (gw Γ) 109))]) C dL_law_2281 rfl rfl (by decide) rfl ?_
                                                                          refine g_goto (tgt := 28) C dL_law_2284 (by decide) ?_
                                                                          refine g_sub [3, 4, 5, 6, 7, 0] rfl ?_
                                                                          exact hrec (v5 + (6 : Int32)) m_277 _ (by omega) h
                                                                        · replace h := it_t c_280 h
                                                                          refine g_aload_n C dL_law_2215 5 rfl rfl ?_
                                                                          refine g_iconst (v := (0 : Int32)) C dL_law_2216 (by decide) ?_
                                                                          refine g_lald' (j := 0) C dL_law_2217 (okA_of rfl rfl (by decide)) (by decide) ?_
                                                                          refine g_iload C dL_law_2218 0 rfl ?_
                                                                          refine g_if_eq (tgt := 2227) C dL_law_2220 (by decide) (fun c_279 => ?_) (fun c_279 => ?_)
                                                                          · replace h := it_t c_279 h
                                                                            refine g_lconst (v := (0 : Int64)) C dL_law_2227 (by decide) ?_
                                                                            refine g_sub [2, 3, 4, 5, 6, 7] rfl ?_
                                                                            exact t_L_law_2228 N Γ C b L xs S o rc cm _ (by omega) hcm hE hrec v5 (0 : Int64) (gJ m_277 108 0) m_277 h
                                                                          · replace h := it_f c_279 h
                                                                            refine g_lconst (v := (1 : Int64)) C dL_law_2223 (by decide) ?_
                                                                            refine g_goto (tgt := 2228) C dL_law_2224 (by decide) ?_
                                                                            refine g_sub [2, 3, 4, 5, 6, 7] rfl ?_
                                                                            exact t_L_law_2228 N Γ C b L xs S o rc cm _ (by omega) hcm hE hrec v5 (1 : Int64) (gJ m_277 108 0) m_277 h
                                                                      · replace h := it_f c_281 h
                                                                        cases h
                                                                    · replace h := it_f c_282 h
                                                                      by_cases c_289 : ((xs v5.toNatClampNeg) &&& (63 : Int32)) = (33 : Int32)
                                                                      · replace h := it_t c_289 h
                                                                        refine g_tin (tgt := 2237) (off := 2192) C dL_law_45 (by rw [c_289]; decide) (by rw [c_289]; decide) (by rw [c_289]; rfl) (by decide) ?_
                                                                        refine g_aload_n C dL_law_2237 1 rfl rfl ?_
                                                                        refine g_aload_n C dL_law_2238 3 rfl rfl ?_
                                                                        obtain ⟨r_283, m_283, hk_283, h⟩ := b2_some h
                                                                        refine g_wI (As := [.ref (oa (gw Γ) 0), .ref (oa (gw Γ) 108)]) (mc' := 1) C dL_law_2239 mf_L_undo k_1145 ⟨by decide, by decide⟩ rfl rfl (Nat.le_of_ble_eq_true rfl) (by omega) (c_L_undo N (gl Γ) C.2.2.2.2 (gw Γ)  m _ hk_283) ?_
                                                                        refine g_istore (lv' := [(6, .int r_283), (0, .ref b), (1, .ref (oa (gw Γ) 0)), (2, .ref (oa (gw Γ) 95)), (3, .ref (oa (gw Γ) 108)), (4, .ref (oa (gw Γ) 109)), (5, .int v5)]) C dL_law_2242 (by decide) rfl ?_
                                                                        refine g_aload_n C dL_law_2244 3 rfl rfl ?_
                                                                        obtain ⟨r_284, m_284, hk_284, h⟩ := b2_some h
                                                                        refine g_vI (As := []) (a := 95) (ci := 10) C dL_law_2245 mf_X10_undo k_1146 rfl (by decide) ⟨by decide, by decide⟩ rfl rfl (Nat.le_of_ble_eq_true rfl) (by omega) rfl (c_X10_undo N (gl Γ) C.2.2.2.2 (gw Γ)  m_283 _ hk_284) ?_
                                                                        refine g_istore (lv' := [(7, .int r_284), (6, .int r_283), (0, .ref b), (1, .ref (oa (gw Γ) 0)), (2, .ref (oa (gw Γ) 95)), (3, .ref (oa (gw Γ) 108)), (4, .ref (oa (gw Γ) 109)), (5, .int v5)]) C dL_law_2248 (by decide) rfl ?_
                                                                        refine g_aload_n C dL_law_2250 4 rfl rfl ?_
                                                                        obtain ⟨r_285, m_285, hk_285, h⟩ := b2_some h
                                                                        refine g_vI (As := []) (a := 95) (ci := 10) C dL_law_2251 mf_X10_thrown k_975 rfl (by decide) ⟨by decide, by decide⟩ rfl rfl (Nat.le_of_ble_eq_true rfl) (by omega) rfl (c_X10_thrown N (gl Γ) C.2.2.2.2 (gw Γ)  m_284 _ hk_285) ?_
                                                                        refine g_iload C dL_law_2254 1 rfl ?_
                                                                        refine g_icmp_eq (tgt := 2261) C dL_law_2256 (by decide) (fun c_288 => ?_) (fun c_288 => ?_)
                                                                        · replace h := it_t c_288 h
                                                                          refine g_iload C dL_law_2261 1 rfl ?_
                                                                          refine g_if_ne (tgt := 2278) C dL_law_2263 (by decide) (fun c_287 => ?_) (fun c_287 => ?_)
                                                                          · replace h := it_f c_287 h
                                                                            refine g_goto (tgt := 2281) C dL_law_2278 (by decide) ?_
                                                                            refine g_iinc (q := 7) (v := v5 + (6 : Int32)) (lv' := [(5, .int (v5 + (6 : Int32))), (7, .int r_284), (6, .int r_283), (0, .ref b), (1, .ref (oa (gw Γ) 0)), (2, .ref (oa (gw Γ) 95)), (3, .ref (oa (gw Γ) 108)), (4, .ref (oa (gw Γ) 109))]) C dL_law_2281 rfl rfl (by decide) rfl ?_
                                                                            refine g_goto (tgt := 28) C dL_law_2284 (by decide) ?_
                                                                            refine g_sub [3, 4, 5, 6, 7, 0] rfl ?_
                                                                            exact hrec (v5 + (6 : Int32)) m_285 _ (by omega) h
                                                                          · replace h := it_t c_287 h
                                                                            refine g_aload_n C dL_law_2266 5 rfl rfl ?_
                                                                            refine g_iconst (v := (0 : Int32)) C dL_law_2267 (by decide) ?_
                                                                            refine g_lald' (j := 0) C dL_law_2268 (okA_of rfl rfl (by decide)) (by decide) ?_
                                                                            refine g_iload C dL_law_2269 0 rfl ?_
                                                                            refine g_i2l C dL_law_2271 ?_
                                                                            refine g_lcmp C dL_law_2272 ?_
                                                                            refine g_if_eq (tgt := 2278) C dL_law_2273 (by decide) (fun c_286 => ?_) (fun c_286 => ?_)
                                                                            · replace h := it_t c_286 h
                                                                              refine g_goto (tgt := 2281) C dL_law_2278 (by decide) ?_
                                                                              refine g_iinc (q := 7) (v := v5 + (6 : Int32)) (lv' := [(5, .int (v5 + (6 : Int32))), (7, .int r_284), (6, .int r_283), (0, .ref b), (1, .ref (oa (gw Γ) 0)), (2, .ref (oa (gw Γ) 95)), (3, .ref (oa (gw Γ) 108)), (4, .ref (oa (gw Γ) 109))]) C dL_law_2281 rfl rfl (by decide) rfl ?_
                                                                              refine g_goto (tgt := 28) C dL_law_2284 (by decide) ?_
                                                                              refine g_sub [3, 4, 5, 6, 7, 0] rfl ?_
                                                                              exact hrec (v5 + (6 : Int32)) m_285 _ (by omega) h
                                                                            · replace h := it_f c_286 h
                                                                              cases h
                                                                        · replace h := it_f c_288 h
                                                                          cases h
                                                                      · replace h := it_f c_289 h
                                                                        refine g_tout (tgt := 2281) C dL_law_45 (sw34 c_13 c_21 c_28 c_32 c_36 c_44 c_54 c_63 c_73 c_82 c_91 c_99 c_108 c_116 c_124 c_132 c_140 c_150 c_159 c_167 c_177 c_187 c_195 c_204 c_213 c_221 c_230 c_239 c_247 c_255 c_263 c_272 c_282 c_289) (by decide) ?_
                                                                        refine g_iinc (q := 5) (v := v5 + (6 : Int32)) (lv' := [(5, .int (v5 + (6 : Int32))), (0, .ref b), (1, .ref (oa (gw Γ) 0)), (2, .ref (oa (gw Γ) 95)), (3, .ref (oa (gw Γ) 108)), (4, .ref (oa (gw Γ) 109))]) C dL_law_2281 rfl rfl (by decide) rfl ?_
                                                                        refine g_goto (tgt := 28) C dL_law_2284 (by decide) ?_
                                                                        refine g_sub [1, 2, 3, 4, 5, 0] rfl ?_
                                                                        exact hrec (v5 + (6 : Int32)) m _ (by omega) h
theorem lt_L_law (N : Nat) (Γ : Gc) (C : Cx Γ cL_law 9 RL (rmK 14 520 600000)) (b L : Nat) (xs : Nat → Int32) (S : HS Γ b L xs) (o : Mem) (hE : ∀ cs, cs ≤ 600000 → G Γ 9 cs o 2287 [] []) : ∀ (n cs : Nat) (v5 : Int32) (m : Mem), cs + 8 * n ≤ 600000 → L_L_law N L xs n v5 m = some o → G Γ 9 cs m 28 [(0, .ref b), (1, .ref (oa (gw Γ) 0)), (2, .ref (oa (gw Γ) 95)), (3, .ref (oa (gw Γ) 108)), (4, .ref (oa (gw Γ) 109)), (5, .int v5)] [] := by
  intro n
  induction n with
  | zero =>
    intro cs v5 m hn h
    have h9 : (none : Option Mem) = some o := h
    cases h9
  | succ n ih => intro cs v5 m hn h; exact t_L_law N Γ C b L xs S o (L_L_law N L xs n) (cs + 8) cs (Nat.le_refl _) (by omega) (fun cs9 h9 => hE cs9 (by omega)) (fun v5 m cs9 h9 hr => ih cs9 v5 m (by omega) hr) v5 m h
