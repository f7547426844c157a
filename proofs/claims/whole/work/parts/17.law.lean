def B_L_law_548 (N L : Nat) (xs : Nat → Int32) (rc : Int32 → Mem → Option Mem) (v5 : Int32) (s0 : Int64) (s1 : Int64) (m : Mem) : Option Mem :=
  (if (lg_cmp s1 s0) = 0 then rc (v5 + (6 : Int32)) m else none)
def B_L_law_691 (N L : Nat) (xs : Nat → Int32) (rc : Int32 → Mem → Option Mem) (v5 : Int32) (s0 : Int64) (s1 : Int64) (m : Mem) : Option Mem :=
  (if (lg_cmp s1 s0) = 0 then rc (v5 + (6 : Int32)) m else none)
def B_L_law_2228 (N L : Nat) (xs : Nat → Int32) (rc : Int32 → Mem → Option Mem) (v5 : Int32) (s0 : Int64) (s1 : Int64) (m : Mem) : Option Mem :=
  (if (lg_cmp s1 s0) = 0 then rc (v5 + (6 : Int32)) m else none)
def T_L_law (N L : Nat) (xs : Nat → Int32) (rc : Int32 → Mem → Option Mem) (v5 : Int32) (m : Mem) : Option Mem :=
  (if ((Int32.ofNat L) - (6 : Int32)) < v5 then some m else gd (inb v5 L) ((if ((xs v5.toNatClampNeg) &&& (63 : Int32)) = (0 : Int32) then gd (inb (v5 + (1 : Int32)) L) (gd (inb (v5 + (2 : Int32)) L) (gd (inb (v5 + (3 : Int32)) L) (gd (inb (v5 + (4 : Int32)) L) (gd (inb (v5 + (5 : Int32)) L) (b2 (f_L_append N 0 (xs (v5 + (1 : Int32)).toNatClampNeg) (xs (v5 + (2 : Int32)).toNatClampNeg) (xs (v5 + (3 : Int32)).toNatClampNeg) (xs (v5 + (4 : Int32)).toNatClampNeg) (xs (v5 + (5 : Int32)).toNatClampNeg) 108 m) (fun r_7 m_7 => gd (kd 95 == 10) (b2 (f_X10_append N 95 (xs (v5 + (1 : Int32)).toNatClampNeg) (xs (v5 + (2 : Int32)).toNatClampNeg) (xs (v5 + (3 : Int32)).toNatClampNeg) (xs (v5 + (4 : Int32)).toNatClampNeg) (xs (v5 + (5 : Int32)).toNatClampNeg) m_7) (fun r_9 m_9 => b2 (f_X10_thrown N 95 m_9) (fun r_10 m_10 => (if r_10 = r_7 then (if r_7 = 0 then gd (okA 15 108 (0 : Int32)) ((if (lg_cmp (gJ m_10 108 (0 : Int32).toNatClampNeg) r_9.toInt64) = 0 then rc (v5 + (6 : Int32)) m_10 else none)) else rc (v5 + (6 : Int32)) m_10) else none)))))))))) else if ((xs v5.toNatClampNeg) &&& (63 : Int32)) = (1 : Int32) then gd (inb (v5 + (1 : Int32)) L) (b2 (f_L_truncate N 0 (xs (v5 + (1 : Int32)).toNatClampNeg) 108 m) (fun r_17 m_17 => gd (kd 95 == 10) (b2 (f_X10_truncate N 95 (xs (v5 + (1 : Int32)).toNatClampNeg) m_17) (fun r_19 m_19 => b2 (f_X10_thrown N 95 m_19) (fun r_20 m_20 => (if r_20 = r_17 then (if r_17 = 0 then gd (okA 15 108 (0 : Int32)) ((if (lg_cmp (gJ m_20 108 (0 : Int32).toNatClampNeg) r_19.toInt64) = 0 then rc (v5 + (6 : Int32)) m_20 else none)) else rc (v5 + (6 : Int32)) m_20) else none)))))) else if ((xs v5.toNatClampNeg) &&& (63 : Int32)) = (2 : Int32) then b2 (f_L_load N 0 108 m) (fun r_26 m_26 => gd (kd 95 == 10) (b2 (f_X10_load N 95 m_26) (fun r_28 m_28 => b2 (f_X10_thrown N 95 m_28) (fun r_29 m_29 => (if r_29 = r_26 then (if r_26 = 0 then gd (okA 15 108 (0 : Int32)) ((if (lg_cmp (gJ m_29 108 (0 : Int32).toNatClampNeg) r_28.toInt64) = 0 then rc (v5 + (6 : Int32)) m_29 else none)) else rc (v5 + (6 : Int32)) m_29) else none))))) else if ((xs v5.toNatClampNeg) &&& (63 : Int32)) = (3 : Int32) then gd (kd 0 == 9) (b2 (f_X9_errorCode N 0 m) (fun r_36 m_36 => gd (kd 95 == 10) (b2 (f_X10_errorCode N 95 m_36) (fun r_38 m_38 => (if r_36 = r_38 then rc (v5 + (6 : Int32)) m_38 else none))))) else if ((xs v5.toNatClampNeg) &&& (63 : Int32)) = (4 : Int32) then gd (kd 0 == 9) (b2 (f_X9_errorPosition N 0 m) (fun r_42 m_42 => gd (kd 95 == 10) (b2 (f_X10_errorPosition N 95 m_42) (fun r_44 m_44 => (if r_42 = r_44 then rc (v5 + (6 : Int32)) m_44 else none))))) else if ((xs v5.toNatClampNeg) &&& (63 : Int32)) = (5 : Int32) then gd (inb (v5 + (1 : Int32)) L) (b2 (f_L_count N 0 (xs (v5 + (1 : Int32)).toNatClampNeg) 108 m) (fun r_48 m_48 => gd (kd 95 == 10) (b2 (f_X10_count N 95 (xs (v5 + (1 : Int32)).toNatClampNeg) m_48) (fun r_50 m_50 => b2 (f_X10_thrown N 95 m_50) (fun r_51 m_51 => (if r_51 = r_48 then (if r_48 = 0 then gd (okA 15 108 (0 : Int32)) ((if (lg_cmp (gJ m_51 108 (0 : Int32).toNatClampNeg) r_50.toInt64) = 0 then rc (v5 + (6 : Int32)) m_51 else none)) else rc (v5 + (6 : Int32)) m_51) else none)))))) else if ((xs v5.toNatClampNeg) &&& (63 : Int32)) = (6 : Int32) then gd (inb (v5 + (1 : Int32)) L) (gd (inb (v5 + (2 : Int32)) L) (b2 (f_L_isConflict N 0 (xs (v5 + (1 : Int32)).toNatClampNeg) (xs (v5 + (2 : Int32)).toNatClampNeg) 108 m) (fun r_59 m_59 => gd (kd 95 == 10) (b2 (f_X10_isConflict N 95 (xs (v5 + (1 : Int32)).toNatClampNeg) (xs (v5 + (2 : Int32)).toNatClampNeg) m_59) (fun r_61 m_61 => b2 (f_X10_thrown N 95 m_61) (fun r_62 m_62 => (if r_62 = r_59 then (if r_59 = 0 then gd (okA 15 108 (0 : Int32)) ((if r_61 = 0 then B_L_law_548 N L xs rc v5 (0 : Int64) (gJ m_62 108 (0 : Int32).toNatClampNeg) m_62 else B_L_law_548 N L xs rc v5 (1 : Int64) (gJ m_62 108 (0 : Int32).toNatClampNeg) m_62)) else rc (v5 + (6 : Int32)) m_62) else none))))))) else if ((xs v5.toNatClampNeg) &&& (63 : Int32)) = (7 : Int32) then gd (inb (v5 + (1 : Int32)) L) (gd (inb (v5 + (2 : Int32)) L) (b2 (f_L_match N 0 (xs (v5 + (1 : Int32)).toNatClampNeg) (xs (v5 + (2 : Int32)).toNatClampNeg) 108 m) (fun r_71 m_71 => gd (kd 95 == 10) (b2 (f_X10_match N 95 (xs (v5 + (1 : Int32)).toNatClampNeg) (xs (v5 + (2 : Int32)).toNatClampNeg) m_71) (fun r_73 m_73 => b2 (f_X10_thrown N 95 m_73) (fun r_74 m_74 => (if r_74 = r_71 then (if r_71 = 0 then gd (okA 15 108 (0 : Int32)) ((if (lg_cmp (gJ m_74 108 (0 : Int32).toNatClampNeg) r_73.toInt64) = 0 then rc (v5 + (6 : Int32)) m_74 else none)) else rc (v5 + (6 : Int32)) m_74) else none))))))) else if ((xs v5.toNatClampNeg) &&& (63 : Int32)) = (8 : Int32) then gd (inb (v5 + (1 : Int32)) L) (gd (inb (v5 + (2 : Int32)) L) (b2 (f_L_declare N 0 (xs (v5 + (1 : Int32)).toNatClampNeg) (xs (v5 + (2 : Int32)).toNatClampNeg) 108 m) (fun r_82 m_82 => gd (kd 95 == 10) (b2 (f_X10_declare N 95 (xs (v5 + (1 : Int32)).toNatClampNeg) (xs (v5 + (2 : Int32)).toNatClampNeg) m_82) (fun r_84 m_84 => b2 (f_X10_thrown N 95 m_84) (fun r_85 m_85 => (if r_85 = r_82 then (if r_82 = 0 then gd (okA 15 108 (0 : Int32)) ((if r_84 = 0 then B_L_law_691 N L xs rc v5 (0 : Int64) (gJ m_85 108 (0 : Int32).toNatClampNeg) m_85 else B_L_law_691 N L xs rc v5 (1 : Int64) (gJ m_85 108 (0 : Int32).toNatClampNeg) m_85)) else rc (v5 + (6 : Int32)) m_85) else none))))))) else if ((xs v5.toNatClampNeg) &&& (63 : Int32)) = (9 : Int32) then gd (inb (v5 + (1 : Int32)) L) (gd (inb (v5 + (2 : Int32)) L) (b2 (f_L_assign N 0 (xs (v5 + (1 : Int32)).toNatClampNeg) (xs (v5 + (2 : Int32)).toNatClampNeg) 108 m) (fun r_94 m_94 => gd (kd 95 == 10) (b2 (f_X10_assign N 95 (xs (v5 + (1 : Int32)).toNatClampNeg) (xs (v5 + (2 : Int32)).toNatClampNeg) m_94) (fun r_96 m_96 => b2 (f_X10_thrown N 95 m_96) (fun r_97 m_97 => (if r_97 = r_94 then (if r_94 = 0 then gd (okA 15 108 (0 : Int32)) ((if (lg_cmp (gJ m_97 108 (0 : Int32).toNatClampNeg) r_96.toInt64) = 0 then rc (v5 + (6 : Int32)) m_97 else none)) else rc (v5 + (6 : Int32)) m_97) else none))))))) else if ((xs v5.toNatClampNeg) &&& (63 : Int32)) = (10 : Int32) then gd (inb (v5 + (1 : Int32)) L) (gd (inb (v5 + (2 : Int32)) L) (b2 (f_L_unassign N 0 (xs (v5 + (1 : Int32)).toNatClampNeg) (xs (v5 + (2 : Int32)).toNatClampNeg) 108 m) (fun r_105 m_105 => gd (kd 95 == 10) (b2 (f_X10_unassign N 95 (xs (v5 + (1 : Int32)).toNatClampNeg) (xs (v5 + (2 : Int32)).toNatClampNeg) m_105) (fun r_107 m_107 => b2 (f_X10_thrown N 95 m_107) (fun r_108 m_108 => (if r_108 = r_105 then (if r_105 = 0 then gd (okA 15 108 (0 : Int32)) ((if (lg_cmp (gJ m_108 108 (0 : Int32).toNatClampNeg) r_107.toInt64) = 0 then rc (v5 + (6 : Int32)) m_108 else none)) else rc (v5 + (6 : Int32)) m_108) else none))))))) else if ((xs v5.toNatClampNeg) &&& (63 : Int32)) = (11 : Int32) then gd (inb (v5 + (1 : Int32)) L) (b2 (f_L_assignAll N 0 (xs (v5 + (1 : Int32)).toNatClampNeg) 108 m) (fun r_115 m_115 => gd (kd 95 == 10) (b2 (f_X10_assignAll N 95 (xs (v5 + (1 : Int32)).toNatClampNeg) m_115) (fun r_117 m_117 => b2 (f_X10_thrown N 95 m_117) (fun r_118 m_118 => (if r_118 = r_115 then (if r_115 = 0 then gd (okA 15 108 (0 : Int32)) ((if (lg_cmp (gJ m_118 108 (0 : Int32).toNatClampNeg) r_117.toInt64) = 0 then rc (v5 + (6 : Int32)) m_118 else none)) else rc (v5 + (6 : Int32)) m_118) else none)))))) else if ((xs v5.toNatClampNeg) &&& (63 : Int32)) = (12 : Int32) then gd (inb (v5 + (1 : Int32)) L) (gd (inb (v5 + (2 : Int32)) L) (b2 (f_L_reviewerOf N 0 (xs (v5 + (1 : Int32)).toNatClampNeg) (xs (v5 + (2 : Int32)).toNatClampNeg) 108 m) (fun r_126 m_126 => gd (kd 95 == 10) (b2 (f_X10_reviewerOf N 95 (xs (v5 + (1 : Int32)).toNatClampNeg) (xs (v5 + (2 : Int32)).toNatClampNeg) m_126) (fun r_128 m_128 => b2 (f_X10_thrown N 95 m_128) (fun r_129 m_129 => (if r_129 = r_126 then (if r_126 = 0 then gd (okA 15 108 (0 : Int32)) ((if (lg_cmp (gJ m_129 108 (0 : Int32).toNatClampNeg) r_128.toInt64) = 0 then rc (v5 + (6 : Int32)) m_129 else none)) else rc (v5 + (6 : Int32)) m_129) else none))))))) else if ((xs v5.toNatClampNeg) &&& (63 : Int32)) = (13 : Int32) then gd (inb (v5 + (1 : Int32)) L) (b2 (f_L_loadOf N 0 (xs (v5 + (1 : Int32)).toNatClampNeg) 108 m) (fun r_136 m_136 => gd (kd 95 == 10) (b2 (f_X10_loadOf N 95 (xs (v5 + (1 : Int32)).toNatClampNeg) m_136) (fun r_138 m_138 => b2 (f_X10_thrown N 95 m_138) (fun r_139 m_139 => (if r_139 = r_136 then (if r_136 = 0 then gd (okA 15 108 (0 : Int32)) ((if (lg_cmp (gJ m_139 108 (0 : Int32).toNatClampNeg) r_138.toInt64) = 0 then rc (v5 + (6 : Int32)) m_139 else none)) else rc (v5 + (6 : Int32)) m_139) else none)))))) else if ((xs v5.toNatClampNeg) &&& (63 : Int32)) = (14 : Int32) then gd (inb (v5 + (1 : Int32)) L) (b2 (f_L_matchSum N 0 (xs (v5 + (1 : Int32)).toNatClampNeg) 108 m) (fun r_146 m_146 => gd (kd 95 == 10) (b2 (f_X10_matchSum N 95 (xs (v5 + (1 : Int32)).toNatClampNeg) m_146) (fun r_148 m_148 => b2 (f_X10_thrown N 95 m_148) (fun r_149 m_149 => (if r_149 = r_146 then (if r_146 = 0 then gd (okA 15 108 (0 : Int32)) ((if (lg_cmp (gJ m_149 108 (0 : Int32).toNatClampNeg) r_148.toInt64) = 0 then rc (v5 + (6 : Int32)) m_149 else none)) else rc (v5 + (6 : Int32)) m_149) else none)))))) else if ((xs v5.toNatClampNeg) &&& (63 : Int32)) = (15 : Int32) then gd (inb (v5 + (1 : Int32)) L) (b2 (f_L_mostReviews N 0 (xs (v5 + (1 : Int32)).toNatClampNeg) 108 m) (fun r_156 m_156 => gd (kd 95 == 10) (b2 (f_X10_mostReviews N 95 (xs (v5 + (1 : Int32)).toNatClampNeg) m_156) (fun r_158 m_158 => b2 (f_X10_thrown N 95 m_158) (fun r_159 m_159 => (if r_159 = r_156 then (if r_156 = 0 then gd (okA 15 108 (0 : Int32)) ((if (lg_cmp (gJ m_159 108 (0 : Int32).toNatClampNeg) r_158.toInt64) = 0 then rc (v5 + (6 : Int32)) m_159 else none)) else rc (v5 + (6 : Int32)) m_159) else none)))))) else if ((xs v5.toNatClampNeg) &&& (63 : Int32)) = (16 : Int32) then gd (inb (v5 + (1 : Int32)) L) (b2 (f_L_bestMatchSum N 0 (xs (v5 + (1 : Int32)).toNatClampNeg) 108 m) (fun r_166 m_166 => gd (kd 95 == 10) (b2 (f_X10_bestMatchSum N 95 (xs (v5 + (1 : Int32)).toNatClampNeg) m_166) (fun r_168 m_168 => b2 (f_X10_thrown N 95 m_168) (fun r_169 m_169 => (if r_169 = r_166 then (if r_166 = 0 then gd (okA 15 108 (0 : Int32)) ((if (lg_cmp (gJ m_169 108 (0 : Int32).toNatClampNeg) r_168.toInt64) = 0 then rc (v5 + (6 : Int32)) m_169 else none)) else rc (v5 + (6 : Int32)) m_169) else none)))))) else if ((xs v5.toNatClampNeg) &&& (63 : Int32)) = (17 : Int32) then gd (inb (v5 + (1 : Int32)) L) (gd (inb (v5 + (2 : Int32)) L) (gd (inb (v5 + (3 : Int32)) L) (b2 (f_L_setScore N 0 (xs (v5 + (1 : Int32)).toNatClampNeg) (xs (v5 + (2 : Int32)).toNatClampNeg) (xs (v5 + (3 : Int32)).toNatClampNeg) 108 m) (fun r_178 m_178 => gd (kd 95 == 10) (b2 (f_X10_setScore N 95 (xs (v5 + (1 : Int32)).toNatClampNeg) (xs (v5 + (2 : Int32)).toNatClampNeg) (xs (v5 + (3 : Int32)).toNatClampNeg) m_178) (fun r_180 m_180 => b2 (f_X10_thrown N 95 m_180) (fun r_181 m_181 => (if r_181 = r_178 then (if r_178 = 0 then gd (okA 15 108 (0 : Int32)) ((if (lg_cmp (gJ m_181 108 (0 : Int32).toNatClampNeg) r_180.toInt64) = 0 then rc (v5 + (6 : Int32)) m_181 else none)) else rc (v5 + (6 : Int32)) m_181) else none)))))))) else if ((xs v5.toNatClampNeg) &&& (63 : Int32)) = (18 : Int32) then gd (inb (v5 + (1 : Int32)) L) (gd (inb (v5 + (2 : Int32)) L) (b2 (f_L_adjusted N 0 (xs (v5 + (1 : Int32)).toNatClampNeg) (xs (v5 + (2 : Int32)).toNatClampNeg) 108 m) (fun r_189 m_189 => gd (kd 95 == 10) (b2 (f_X10_adjusted N 95 (xs (v5 + (1 : Int32)).toNatClampNeg) (xs (v5 + (2 : Int32)).toNatClampNeg) m_189) (fun r_191 m_191 => b2 (f_X10_thrown N 95 m_191) (fun r_192 m_192 => (if r_192 = r_189 then (if r_189 = 0 then gd (okA 15 108 (0 : Int32)) ((if (lg_cmp (gJ m_192 108 (0 : Int32).toNatClampNeg) r_191.toInt64) = 0 then rc (v5 + (6 : Int32)) m_192 else none)) else rc (v5 + (6 : Int32)) m_192) else none))))))) else if ((xs v5.toNatClampNeg) &&& (63 : Int32)) = (19 : Int32) then gd (inb (v5 + (1 : Int32)) L) (b2 (f_L_normalized N 0 (xs (v5 + (1 : Int32)).toNatClampNeg) 108 m) (fun r_199 m_199 => gd (kd 95 == 10) (b2 (f_X10_normalized N 95 (xs (v5 + (1 : Int32)).toNatClampNeg) m_199) (fun r_201 m_201 => b2 (f_X10_thrown N 95 m_201) (fun r_202 m_202 => (if r_202 = r_199 then (if r_199 = 0 then gd (okA 15 108 (0 : Int32)) ((if (lg_cmp (gJ m_202 108 (0 : Int32).toNatClampNeg) r_201.toInt64) = 0 then rc (v5 + (6 : Int32)) m_202 else none)) else rc (v5 + (6 : Int32)) m_202) else none)))))) else if ((xs v5.toNatClampNeg) &&& (63 : Int32)) = (20 : Int32) then gd (inb (v5 + (1 : Int32)) L) (b2 (f_L_leniency N 0 (xs (v5 + (1 : Int32)).toNatClampNeg) 109 m) (fun r_209 m_209 => gd (kd 95 == 10) (b2 (f_X10_leniency N 95 (xs (v5 + (1 : Int32)).toNatClampNeg) m_209) (fun r_211 m_211 => b2 (f_X10_thrown N 95 m_211) (fun r_212 m_212 => (if r_212 = r_209 then (if r_209 = 0 then gd (okA 16 109 (0 : Int32)) ((if (Op.cmpValue (FP.dcmp (gD m_212 109 (0 : Int32).toNatClampNeg) r_211) .l) = 0 then rc (v5 + (6 : Int32)) m_212 else (if (Op.cmpValue (FP.dcmp (gD m_212 109 (0 : Int32).toNatClampNeg) (gD m_212 109 (0 : Int32).toNatClampNeg)) .l) = 0 then none else (if (Op.cmpValue (FP.dcmp r_211 r_211) .l) = 0 then none else rc (v5 + (6 : Int32)) m_212)))) else rc (v5 + (6 : Int32)) m_212) else none)))))) else if ((xs v5.toNatClampNeg) &&& (63 : Int32)) = (21 : Int32) then gd (inb (v5 + (1 : Int32)) L) (b2 (f_L_disagreement N 0 (xs (v5 + (1 : Int32)).toNatClampNeg) 109 m) (fun r_221 m_221 => gd (kd 95 == 10) (b2 (f_X10_disagreement N 95 (xs (v5 + (1 : Int32)).toNatClampNeg) m_221) (fun r_223 m_223 => b2 (f_X10_thrown N 95 m_223) (fun r_224 m_224 => (if r_224 = r_221 then (if r_221 = 0 then gd (okA 16 109 (0 : Int32)) ((if (Op.cmpValue (FP.dcmp (gD m_224 109 (0 : Int32).toNatClampNeg) r_223) .l) = 0 then rc (v5 + (6 : Int32)) m_224 else (if (Op.cmpValue (FP.dcmp (gD m_224 109 (0 : Int32).toNatClampNeg) (gD m_224 109 (0 : Int32).toNatClampNeg)) .l) = 0 then none else (if (Op.cmpValue (FP.dcmp r_223 r_223) .l) = 0 then none else rc (v5 + (6 : Int32)) m_224)))) else rc (v5 + (6 : Int32)) m_224) else none)))))) else if ((xs v5.toNatClampNeg) &&& (63 : Int32)) = (22 : Int32) then gd (inb (v5 + (1 : Int32)) L) (b2 (f_L_rank N 0 (xs (v5 + (1 : Int32)).toNatClampNeg) 108 m) (fun r_233 m_233 => gd (kd 95 == 10) (b2 (f_X10_rank N 95 (xs (v5 + (1 : Int32)).toNatClampNeg) m_233) (fun r_235 m_235 => b2 (f_X10_thrown N 95 m_235) (fun r_236 m_236 => (if r_236 = r_233 then (if r_233 = 0 then gd (okA 15 108 (0 : Int32)) ((if (lg_cmp (gJ m_236 108 (0 : Int32).toNatClampNeg) r_235.toInt64) = 0 then rc (v5 + (6 : Int32)) m_236 else none)) else rc (v5 + (6 : Int32)) m_236) else none)))))) else if ((xs v5.toNatClampNeg) &&& (63 : Int32)) = (23 : Int32) then gd (inb (v5 + (1 : Int32)) L) (gd (inb (v5 + (2 : Int32)) L) (b2 (f_L_ranked N 0 (xs (v5 + (1 : Int32)).toNatClampNeg) (xs (v5 + (2 : Int32)).toNatClampNeg) 108 m) (fun r_244 m_244 => gd (kd 95 == 10) (b2 (f_X10_ranked N 95 (xs (v5 + (1 : Int32)).toNatClampNeg) (xs (v5 + (2 : Int32)).toNatClampNeg) m_244) (fun r_246 m_246 => b2 (f_X10_thrown N 95 m_246) (fun r_247 m_247 => (if r_247 = r_244 then (if r_244 = 0 then gd (okA 15 108 (0 : Int32)) ((if (lg_cmp (gJ m_247 108 (0 : Int32).toNatClampNeg) r_246.toInt64) = 0 then rc (v5 + (6 : Int32)) m_247 else none)) else rc (v5 + (6 : Int32)) m_247) else none))))))) else if ((xs v5.toNatClampNeg) &&& (63 : Int32)) = (24 : Int32) then gd (inb (v5 + (1 : Int32)) L) (gd (inb (v5 + (2 : Int32)) L) (b2 (f_L_tieRound N 0 (xs (v5 + (1 : Int32)).toNatClampNeg) (xs (v5 + (2 : Int32)).toNatClampNeg) 108 m) (fun r_255 m_255 => gd (kd 95 == 10) (b2 (f_X10_tieRound N 95 (xs (v5 + (1 : Int32)).toNatClampNeg) (xs (v5 + (2 : Int32)).toNatClampNeg) m_255) (fun r_257 m_257 => b2 (f_X10_thrown N 95 m_257) (fun r_258 m_258 => (if r_258 = r_255 then (if r_255 = 0 then gd (okA 15 108 (0 : Int32)) ((if (lg_cmp (gJ m_258 108 (0 : Int32).toNatClampNeg) r_257.toInt64) = 0 then rc (v5 + (6 : Int32)) m_258 else none)) else rc (v5 + (6 : Int32)) m_258) else none))))))) else if ((xs v5.toNatClampNeg) &&& (63 : Int32)) = (25 : Int32) then gd (inb (v5 + (1 : Int32)) L) (b2 (f_L_setLine N 0 (xs (v5 + (1 : Int32)).toNatClampNeg) 108 m) (fun r_265 m_265 => gd (kd 95 == 10) (b2 (f_X10_setLine N 95 (xs (v5 + (1 : Int32)).toNatClampNeg) m_265) (fun r_267 m_267 => b2 (f_X10_thrown N 95 m_267) (fun r_268 m_268 => (if r_268 = r_265 then (if r_265 = 0 then gd (okA 15 108 (0 : Int32)) ((if (lg_cmp (gJ m_268 108 (0 : Int32).toNatClampNeg) r_267.toInt64) = 0 then rc (v5 + (6 : Int32)) m_268 else none)) else rc (v5 + (6 : Int32)) m_268) else none)))))) else if ((xs v5.toNatClampNeg) &&& (63 : Int32)) = (26 : Int32) then gd (inb (v5 + (1 : Int32)) L) (gd (inb (v5 + (2 : Int32)) L) (b2 (f_L_amount N 0 (xs (v5 + (1 : Int32)).toNatClampNeg) (xs (v5 + (2 : Int32)).toNatClampNeg) 108 m) (fun r_276 m_276 => gd (kd 95 == 10) (b2 (f_X10_amount N 95 (xs (v5 + (1 : Int32)).toNatClampNeg) (xs (v5 + (2 : Int32)).toNatClampNeg) m_276) (fun r_278 m_278 => b2 (f_X10_thrown N 95 m_278) (fun r_279 m_279 => (if r_279 = r_276 then (if r_276 = 0 then gd (okA 15 108 (0 : Int32)) ((if (lg_cmp (gJ m_279 108 (0 : Int32).toNatClampNeg) r_278.toInt64) = 0 then rc (v5 + (6 : Int32)) m_279 else none)) else rc (v5 + (6 : Int32)) m_279) else none))))))) else if ((xs v5.toNatClampNeg) &&& (63 : Int32)) = (27 : Int32) then gd (inb (v5 + (1 : Int32)) L) (gd (inb (v5 + (2 : Int32)) L) (b2 (f_L_left N 0 (xs (v5 + (1 : Int32)).toNatClampNeg) (xs (v5 + (2 : Int32)).toNatClampNeg) 108 m) (fun r_287 m_287 => gd (kd 95 == 10) (b2 (f_X10_left N 95 (xs (v5 + (1 : Int32)).toNatClampNeg) (xs (v5 + (2 : Int32)).toNatClampNeg) m_287) (fun r_289 m_289 => b2 (f_X10_thrown N 95 m_289) (fun r_290 m_290 => (if r_290 = r_287 then (if r_287 = 0 then gd (okA 15 108 (0 : Int32)) ((if (lg_cmp (gJ m_290 108 (0 : Int32).toNatClampNeg) r_289.toInt64) = 0 then rc (v5 + (6 : Int32)) m_290 else none)) else rc (v5 + (6 : Int32)) m_290) else none))))))) else if ((xs v5.toNatClampNeg) &&& (63 : Int32)) = (28 : Int32) then gd (inb (v5 + (1 : Int32)) L) (b2 (f_L_poolLeft N 0 (xs (v5 + (1 : Int32)).toNatClampNeg) 108 m) (fun r_297 m_297 => gd (kd 95 == 10) (b2 (f_X10_poolLeft N 95 (xs (v5 + (1 : Int32)).toNatClampNeg) m_297) (fun r_299 m_299 => b2 (f_X10_thrown N 95 m_299) (fun r_300 m_300 => (if r_300 = r_297 then (if r_297 = 0 then gd (okA 15 108 (0 : Int32)) ((if (lg_cmp (gJ m_300 108 (0 : Int32).toNatClampNeg) r_299.toInt64) = 0 then rc (v5 + (6 : Int32)) m_300 else none)) else rc (v5 + (6 : Int32)) m_300) else none)))))) else if ((xs v5.toNatClampNeg) &&& (63 : Int32)) = (29 : Int32) then gd (inb (v5 + (1 : Int32)) L) (b2 (f_L_funded N 0 (xs (v5 + (1 : Int32)).toNatClampNeg) 108 m) (fun r_307 m_307 => gd (kd 95 == 10) (b2 (f_X10_funded N 95 (xs (v5 + (1 : Int32)).toNatClampNeg) m_307) (fun r_309 m_309 => b2 (f_X10_thrown N 95 m_309) (fun r_310 m_310 => (if r_310 = r_307 then (if r_307 = 0 then gd (okA 15 108 (0 : Int32)) ((if (lg_cmp (gJ m_310 108 (0 : Int32).toNatClampNeg) r_309.toInt64) = 0 then rc (v5 + (6 : Int32)) m_310 else none)) else rc (v5 + (6 : Int32)) m_310) else none)))))) else if ((xs v5.toNatClampNeg) &&& (63 : Int32)) = (30 : Int32) then gd (inb (v5 + (1 : Int32)) L) (b2 (f_L_bestSum N 0 (xs (v5 + (1 : Int32)).toNatClampNeg) 108 m) (fun r_317 m_317 => gd (kd 95 == 10) (b2 (f_X10_bestSum N 95 (xs (v5 + (1 : Int32)).toNatClampNeg) m_317) (fun r_319 m_319 => b2 (f_X10_thrown N 95 m_319) (fun r_320 m_320 => (if r_320 = r_317 then (if r_317 = 0 then gd (okA 15 108 (0 : Int32)) ((if (lg_cmp (gJ m_320 108 (0 : Int32).toNatClampNeg) r_319.toInt64) = 0 then rc (v5 + (6 : Int32)) m_320 else none)) else rc (v5 + (6 : Int32)) m_320) else none)))))) else if ((xs v5.toNatClampNeg) &&& (63 : Int32)) = (31 : Int32) then gd (inb (v5 + (1 : Int32)) L) (gd (inb (v5 + (2 : Int32)) L) (b2 (f_L_lineFor N 0 (xs (v5 + (1 : Int32)).toNatClampNeg) (xs (v5 + (2 : Int32)).toNatClampNeg) 108 m) (fun r_328 m_328 => gd (kd 95 == 10) (b2 (f_X10_lineFor N 95 (xs (v5 + (1 : Int32)).toNatClampNeg) (xs (v5 + (2 : Int32)).toNatClampNeg) m_328) (fun r_330 m_330 => b2 (f_X10_thrown N 95 m_330) (fun r_331 m_331 => (if r_331 = r_328 then (if r_328 = 0 then gd (okA 15 108 (0 : Int32)) ((if (lg_cmp (gJ m_331 108 (0 : Int32).toNatClampNeg) r_330.toInt64) = 0 then rc (v5 + (6 : Int32)) m_331 else none)) else rc (v5 + (6 : Int32)) m_331) else none))))))) else if ((xs v5.toNatClampNeg) &&& (63 : Int32)) = (32 : Int32) then gd (inb (v5 + (1 : Int32)) L) (gd (inb (v5 + (2 : Int32)) L) (b2 (f_L_appeal N 0 (xs (v5 + (1 : Int32)).toNatClampNeg) (xs (v5 + (2 : Int32)).toNatClampNeg) 108 m) (fun r_339 m_339 => gd (kd 95 == 10) (b2 (f_X10_appeal N 95 (xs (v5 + (1 : Int32)).toNatClampNeg) (xs (v5 + (2 : Int32)).toNatClampNeg) m_339) (fun r_341 m_341 => b2 (f_X10_thrown N 95 m_341) (fun r_342 m_342 => (if r_342 = r_339 then (if r_339 = 0 then gd (okA 15 108 (0 : Int32)) ((if r_341 = 0 then B_L_law_2228 N L xs rc v5 (0 : Int64) (gJ m_342 108 (0 : Int32).toNatClampNeg) m_342 else B_L_law_2228 N L xs rc v5 (1 : Int64) (gJ m_342 108 (0 : Int32).toNatClampNeg) m_342)) else rc (v5 + (6 : Int32)) m_342) else none))))))) else if ((xs v5.toNatClampNeg) &&& (63 : Int32)) = (33 : Int32) then b2 (f_L_undo N 0 108 m) (fun r_349 m_349 => gd (kd 95 == 10) (b2 (f_X10_undo N 95 m_349) (fun r_351 m_351 => b2 (f_X10_thrown N 95 m_351) (fun r_352 m_352 => (if r_352 = r_349 then (if r_349 = 0 then gd (okA 15 108 (0 : Int32)) ((if (lg_cmp (gJ m_352 108 (0 : Int32).toNatClampNeg) r_351.toInt64) = 0 then rc (v5 + (6 : Int32)) m_352 else none)) else rc (v5 + (6 : Int32)) m_352) else none))))) else rc (v5 + (6 : Int32)) m)))
def L_L_law (N L : Nat) (xs : Nat → Int32) : Nat → Int32 → Mem → Option Mem
  | 0 => fun _ _ => none
  | n + 1 => T_L_law N L xs (L_L_law N L xs n)
set_option maxRecDepth 100000 in
set_option maxHeartbeats 4000000 in
theorem t_L_law_548 (N : Nat) (Γ : Gc) (C : Cx Γ cL_law 9 RL (rmK 14 520 600000)) (b L : Nat) (xs : Nat → Int32) (S : HS Γ b L xs) (o : Mem) (rc : Int32 → Mem → Option Mem) (cm cs : Nat) (hcs : cs ≤ cm) (hcm : cm ≤ 600000) (hE : ∀ cs, cs ≤ cm → G Γ 9 cs o 2287 [] []) (hrec : ∀ (v5 : Int32) (m : Mem) (cs : Nat), cs ≤ cm → rc v5 m = some o → G Γ 9 cs m 28 [(0, .ref b), (1, .ref (oa (gw Γ) 0)), (2, .ref (oa (gw Γ) 95)), (3, .ref (oa (gw Γ) 108)), (4, .ref (oa (gw Γ) 109)), (5, .int v5)] []) (v5 : Int32) (s0 : Int64) (s1 : Int64) (m : Mem) (h : B_L_law_548 N L xs rc v5 s0 s1 m = some o) : G Γ 9 cs m 548 [(0, .ref b), (1, .ref (oa (gw Γ) 0)), (2, .ref (oa (gw Γ) 95)), (3, .ref (oa (gw Γ) 108)), (4, .ref (oa (gw Γ) 109)), (5, .int v5)] [.long s0, .long s1] := by
  unfold B_L_law_548 at h
  refine g_lcmp C dL_law_548 ?_
  refine g_if_eq (tgt := 554) C dL_law_549 (by decide) (fun c_64 => ?_) (fun c_64 => ?_)
  · replace h := it_t c_64 h
    refine g_goto (tgt := 2281) C dL_law_554 (by decide) ?_
    refine g_iinc (q := 5) (v := v5 + (6 : Int32)) (lv' := [(5, .int (v5 + (6 : Int32))), (0, .ref b), (1, .ref (oa (gw Γ) 0)), (2, .ref (oa (gw Γ) 95)), (3, .ref (oa (gw Γ) 108)), (4, .ref (oa (gw Γ) 109))]) C dL_law_2281 rfl rfl (by decide) rfl ?_
    refine g_goto (tgt := 28) C dL_law_2284 (by decide) ?_
    refine g_sub [1, 2, 3, 4, 5, 0] rfl ?_
    exact hrec (v5 + (6 : Int32)) m _ (by omega) h
  · replace h := it_f c_64 h
    cases h
set_option maxRecDepth 100000 in
set_option maxHeartbeats 4000000 in
theorem t_L_law_691 (N : Nat) (Γ : Gc) (C : Cx Γ cL_law 9 RL (rmK 14 520 600000)) (b L : Nat) (xs : Nat → Int32) (S : HS Γ b L xs) (o : Mem) (rc : Int32 → Mem → Option Mem) (cm cs : Nat) (hcs : cs ≤ cm) (hcm : cm ≤ 600000) (hE : ∀ cs, cs ≤ cm → G Γ 9 cs o 2287 [] []) (hrec : ∀ (v5 : Int32) (m : Mem) (cs : Nat), cs ≤ cm → rc v5 m = some o → G Γ 9 cs m 28 [(0, .ref b), (1, .ref (oa (gw Γ) 0)), (2, .ref (oa (gw Γ) 95)), (3, .ref (oa (gw Γ) 108)), (4, .ref (oa (gw Γ) 109)), (5, .int v5)] []) (v5 : Int32) (s0 : Int64) (s1 : Int64) (m : Mem) (h : B_L_law_691 N L xs rc v5 s0 s1 m = some o) : G Γ 9 cs m 691 [(0, .ref b), (1, .ref (oa (gw Γ) 0)), (2, .ref (oa (gw Γ) 95)), (3, .ref (oa (gw Γ) 108)), (4, .ref (oa (gw Γ) 109)), (5, .int v5)] [.long s0, .long s1] := by
  unfold B_L_law_691 at h
  refine g_lcmp C dL_law_691 ?_
  refine g_if_eq (tgt := 697) C dL_law_692 (by decide) (fun c_87 => ?_) (fun c_87 => ?_)
  · replace h := it_t c_87 h
    refine g_goto (tgt := 2281) C dL_law_697 (by decide) ?_
    refine g_iinc (q := 5) (v := v5 + (6 : Int32)) (lv' := [(5, .int (v5 + (6 : Int32))), (0, .ref b), (1, .ref (oa (gw Γ) 0)), (2, .ref (oa (gw Γ) 95)), (3, .ref (oa (gw Γ) 108)), (4, .ref (oa (gw Γ) 109))]) C dL_law_2281 rfl rfl (by decide) rfl ?_
    refine g_goto (tgt := 28) C dL_law_2284 (by decide) ?_
    refine g_sub [1, 2, 3, 4, 5, 0] rfl ?_
    exact hrec (v5 + (6 : Int32)) m _ (by omega) h
  · replace h := it_f c_87 h
    cases h
set_option maxRecDepth 100000 in
set_option maxHeartbeats 4000000 in
theorem t_L_law_2228 (N : Nat) (Γ : Gc) (C : Cx Γ cL_law 9 RL (rmK 14 520 600000)) (b L : Nat) (xs : Nat → Int32) (S : HS Γ b L xs) (o : Mem) (rc : Int32 → Mem → Option Mem) (cm cs : Nat) (hcs : cs ≤ cm) (hcm : cm ≤ 600000) (hE : ∀ cs, cs ≤ cm → G Γ 9 cs o 2287 [] []) (hrec : ∀ (v5 : Int32) (m : Mem) (cs : Nat), cs ≤ cm → rc v5 m = some o → G Γ 9 cs m 28 [(0, .ref b), (1, .ref (oa (gw Γ) 0)), (2, .ref (oa (gw Γ) 95)), (3, .ref (oa (gw Γ) 108)), (4, .ref (oa (gw Γ) 109)), (5, .int v5)] []) (v5 : Int32) (s0 : Int64) (s1 : Int64) (m : Mem) (h : B_L_law_2228 N L xs rc v5 s0 s1 m = some o) : G Γ 9 cs m 2228 [(0, .ref b), (1, .ref (oa (gw Γ) 0)), (2, .ref (oa (gw Γ) 95)), (3, .ref (oa (gw Γ) 108)), (4, .ref (oa (gw Γ) 109)), (5, .int v5)] [.long s0, .long s1] := by
  unfold B_L_law_2228 at h
  refine g_lcmp C dL_law_2228 ?_
  refine g_if_eq (tgt := 2234) C dL_law_2229 (by decide) (fun c_344 => ?_) (fun c_344 => ?_)
  · replace h := it_t c_344 h
    refine g_goto (tgt := 2281) C dL_law_2234 (by decide) ?_
    refine g_iinc (q := 5) (v := v5 + (6 : Int32)) (lv' := [(5, .int (v5 + (6 : Int32))), (0, .ref b), (1, .ref (oa (gw Γ) 0)), (2, .ref (oa (gw Γ) 95)), (3, .ref (oa (gw Γ) 108)), (4, .ref (oa (gw Γ) 109))]) C dL_law_2281 rfl rfl (by decide) rfl ?_
    refine g_goto (tgt := 28) C dL_law_2284 (by decide) ?_
    refine g_sub [1, 2, 3, 4, 5, 0] rfl ?_
    exact hrec (v5 + (6 : Int32)) m _ (by omega) h
  · replace h := it_f c_344 h
    cases h
set_option maxRecDepth 100000 in
set_option maxHeartbeats 4000000 in
theorem t_L_law (N : Nat) (Γ : Gc) (C : Cx Γ cL_law 9 RL (rmK 14 520 600000)) (b L : Nat) (xs : Nat → Int32) (S : HS Γ b L xs) (o : Mem) (rc : Int32 → Mem → Option Mem) (cm cs : Nat) (hcs : cs + 8 ≤ cm) (hcm : cm ≤ 600000) (hE : ∀ cs, cs ≤ cm → G Γ 9 cs o 2287 [] []) (hrec : ∀ (v5 : Int32) (m : Mem) (cs : Nat), cs ≤ cm → rc v5 m = some o → G Γ 9 cs m 28 [(0, .ref b), (1, .ref (oa (gw Γ) 0)), (2, .ref (oa (gw Γ) 95)), (3, .ref (oa (gw Γ) 108)), (4, .ref (oa (gw Γ) 109)), (5, .int v5)] []) (v5 : Int32) (m : Mem) (h : T_L_law N L xs rc v5 m = some o) : G Γ 9 cs m 28 [(0, .ref b), (1, .ref (oa (gw Γ) 0)), (2, .ref (oa (gw Γ) 95)), (3, .ref (oa (gw Γ) 108)), (4, .ref (oa (gw Γ) 109)), (5, .int v5)] [] := by
  unfold T_L_law at h
  refine g_iload C dL_law_28 5 rfl ?_
  refine g_aload_n C dL_law_30 0 rfl rfl ?_
  refine g_slen C S dL_law_31 ?_
  refine g_bipush (v := (6 : Int32)) C dL_law_32 (by decide) ?_
  refine g_isub C dL_law_34 ?_
  refine g_icmp_gt (tgt := 2287) C dL_law_35 (by decide) (fun c_358 => ?_) (fun c_358 => ?_)
  · replace h := it_t c_358 h
    obtain rfl := Option.some.inj h
    refine g_sub [] rfl ?_
    exact hE _ (by omega)
  · replace h := it_f c_358 h
    refine g_aload_n C dL_law_38 0 rfl rfl ?_
    refine g_iload C dL_law_39 5 rfl ?_
    obtain ⟨g_1, h⟩ := gd_some h
    refine g_sld C S dL_law_41 g_1 ?_
    refine g_bipush (v := (63 : Int32)) C dL_law_42 (by decide) ?_
    refine g_iand C dL_law_44 ?_
    by_cases c_15 : ((xs v5.toNatClampNeg) &&& (63 : Int32)) = (0 : Int32)
    · replace h := it_t c_15 h
      refine g_tin (tgt := 196) (off := 151) C dL_law_45 (by rw [c_15]; decide) (by rw [c_15]; decide) (by rw [c_15]; rfl) (by decide) ?_
      refine g_aload_n C dL_law_196 1 rfl rfl ?_
      refine g_aload_n C dL_law_197 0 rfl rfl ?_
      refine g_iload C dL_law_198 5 rfl ?_
      refine g_iconst (v := (1 : Int32)) C dL_law_200 (by decide) ?_
      refine g_iadd C dL_law_201 ?_
      obtain ⟨g_2, h⟩ := gd_some h
      refine g_sld C S dL_law_202 g_2 ?_
      refine g_aload_n C dL_law_203 0 rfl rfl ?_
      refine g_iload C dL_law_204 5 rfl ?_
      refine g_iconst (v := (2 : Int32)) C dL_law_206 (by decide) ?_
      refine g_iadd C dL_law_207 ?_
      obtain ⟨g_3, h⟩ := gd_some h
      refine g_sld C S dL_law_208 g_3 ?_
      refine g_aload_n C dL_law_209 0 rfl rfl ?_
      refine g_iload C dL_law_210 5 rfl ?_
      refine g_iconst (v := (3 : Int32)) C dL_law_212 (by decide) ?_
      refine g_iadd C dL_law_213 ?_
      obtain ⟨g_4, h⟩ := gd_some h
      refine g_sld C S dL_law_214 g_4 ?_
      refine g_aload_n C dL_law_215 0 rfl rfl ?_
      refine g_iload C dL_law_216 5 rfl ?_
      refine g_iconst (v := (4 : Int32)) C dL_law_218 (by decide) ?_
      refine g_iadd C dL_law_219 ?_
      obtain ⟨g_5, h⟩ := gd_some h
      refine g_sld C S dL_law_220 g_5 ?_
      refine g_aload_n C dL_law_221 0 rfl rfl ?_
      refine g_iload C dL_law_222 5 rfl ?_
      refine g_iconst (v := (5 : Int32)) C dL_law_224 (by decide) ?_
      refine g_iadd C dL_law_225 ?_
      obtain ⟨g_6, h⟩ := gd_some h
      refine g_sld C S dL_law_226 g_6 ?_
      refine g_aload_n C dL_law_227 3 rfl rfl ?_
      obtain ⟨r_7, m_7, hk_7, h⟩ := b2_some h
      refine g_wI (As := [.ref (oa (gw Γ) 0), .int (xs (v5 + (1 : Int32)).toNatClampNeg), .int (xs (v5 + (2 : Int32)).toNatClampNeg), .int (xs (v5 + (3 : Int32)).toNatClampNeg), .int (xs (v5 + (4 : Int32)).toNatClampNeg), .int (xs (v5 + (5 : Int32)).toNatClampNeg), .ref (oa (gw Γ) 108)]) (mc' := 1) C dL_law_228 mf_L_append k_970 ⟨by decide, by decide⟩ rfl rfl (Nat.le_of_ble_eq_true rfl) (by omega) (c_L_append N (gl Γ) C.2.2.2.2 (gw Γ) 0 (xs (v5 + (1 : Int32)).toNatClampNeg) (xs (v5 + (2 : Int32)).toNatClampNeg) (xs (v5 + (3 : Int32)).toNatClampNeg) (xs (v5 + (4 : Int32)).toNatClampNeg) (xs (v5 + (5 : Int32)).toNatClampNeg) 108 m _ hk_7) ?_
      refine g_istore (lv' := [(6, .int r_7), (0, .ref b), (1, .ref (oa (gw Γ) 0)), (2, .ref (oa (gw Γ) 95)), (3, .ref (oa (gw Γ) 108)), (4, .ref (oa (gw Γ) 109)), (5, .int v5)]) C dL_law_231 (by decide) rfl ?_
      refine g_aload_n C dL_law_233 3 rfl rfl ?_
      refine g_aload_n C dL_law_234 1 rfl rfl ?_
      refine g_iload C dL_law_235 6 rfl ?_
      refine g_iconst (v := (1 : Int32)) C dL_law_237 (by decide) ?_
      refine g_iadd C dL_law_238 ?_
      refine g_sld C S dL_law_239 g_2 ?_
      refine g_aload_n C dL_law_240 1 rfl rfl ?_
      refine g_iload C dL_law_241 6 rfl ?_
      refine g_iconst (v := (2 : Int32)) C dL_law_243 (by decide) ?_
      refine g_iadd C dL_law_244 ?_
      refine g_sld C S dL_law_245 g_3 ?_
      refine g_aload_n C dL_law_246 1 rfl rfl ?_
      refine g_iload C dL_law_247 6 rfl ?_
      refine g_iconst (v := (3 : Int32)) C dL_law_249 (by decide) ?_
      refine g_iadd C dL_law_250 ?_
      refine g_sld C S dL_law_251 g_4 ?_
      refine g_aload_n C dL_law_252 1 rfl rfl ?_
      refine g_iload C dL_law_253 6 rfl ?_
      refine g_iconst (v := (4 : Int32)) C dL_law_255 (by decide) ?_
      refine g_iadd C dL_law_256 ?_
      refine g_sld C S dL_law_257 g_5 ?_
      refine g_aload_n C dL_law_258 1 rfl rfl ?_
      refine g_iload C dL_law_259 6 rfl ?_
      refine g_iconst (v := (5 : Int32)) C dL_law_261 (by decide) ?_
      refine g_iadd C dL_law_262 ?_
      refine g_sld C S dL_law_263 g_6 ?_
      obtain ⟨g_8, h⟩ := gd_some h
      obtain ⟨r_9, m_9, hk_9, h⟩ := b2_some h
      refine g_vI (As := [.int (xs (v5 + (1 : Int32)).toNatClampNeg), .int (xs (v5 + (2 : Int32)).toNatClampNeg), .int (xs (v5 + (3 : Int32)).toNatClampNeg), .int (xs (v5 + (4 : Int32)).toNatClampNeg), .int (xs (v5 + (5 : Int32)).toNatClampNeg)]) C dL_law_264 mf_X10_append k_971 rfl (by decide) ⟨by decide, by decide⟩ rfl rfl (Nat.le_of_ble_eq_true rfl) (by omega) g_8 (c_X10_append N (gl Γ) C.2.2.2.2 (gw Γ) 95 (xs (v5 + (1 : Int32)).toNatClampNeg) (xs (v5 + (2 : Int32)).toNatClampNeg) (xs (v5 + (3 : Int32)).toNatClampNeg) (xs (v5 + (4 : Int32)).toNatClampNeg) (xs (v5 + (5 : Int32)).toNatClampNeg) m_7 _ hk_9) ?_
      refine g_istore (lv' := [(7, .int r_9), (6, .int r_7), (0, .ref b), (1, .ref (oa (gw Γ) 0)), (2, .ref (oa (gw Γ) 95)), (3, .ref (oa (gw Γ) 108)), (4, .ref (oa (gw Γ) 109)), (5, .int v5)]) C dL_law_267 (by decide) rfl ?_
      refine g_aload_n C dL_law_269 4 rfl rfl ?_
      obtain ⟨r_10, m_10, hk_10, h⟩ := b2_some h
      refine g_vI (As := []) C dL_law_270 mf_X10_thrown k_975 rfl (by decide) ⟨by decide, by decide⟩ rfl rfl (Nat.le_of_ble_eq_true rfl) (by omega) g_8 (c_X10_thrown N (gl Γ) C.2.2.2.2 (gw Γ) 95 m_9 _ hk_10) ?_
      refine g_iload C dL_law_273 1 rfl ?_
      refine g_icmp_eq (tgt := 280) C dL_law_275 (by decide) (fun c_14 => ?_) (fun c_14 => ?_)
      · replace h := it_t c_14 h
        refine g_iload C dL_law_280 1 rfl ?_
        refine g_if_ne (tgt := 297) C dL_law_282 (by decide) (fun c_13 => ?_) (fun c_13 => ?_)
        · replace h := it_f c_13 h
          refine g_goto (tgt := 2281) C dL_law_297 (by decide) ?_
          refine g_iinc (q := 7) (v := v5 + (6 : Int32)) (lv' := [(5, .int (v5 + (6 : Int32))), (7, .int r_9), (6, .int r_7), (0, .ref b), (1, .ref (oa (gw Γ) 0)), (2, .ref (oa (gw Γ) 95)), (3, .ref (oa (gw Γ) 108)), (4, .ref (oa (gw Γ) 109))]) C dL_law_2281 rfl rfl (by decide) rfl ?_
          refine g_goto (tgt := 28) C dL_law_2284 (by decide) ?_
          refine g_sub [3, 4, 5, 6, 7, 0] rfl ?_
          exact hrec (v5 + (6 : Int32)) m_10 _ (by omega) h
        · replace h := it_t c_13 h
          refine g_aload_n C dL_law_285 5 rfl rfl ?_
          refine g_iconst (v := (0 : Int32)) C dL_law_286 (by decide) ?_
          obtain ⟨g_11, h⟩ := gd_some h
          refine g_lald C dL_law_287 g_11 ?_
          refine g_iload C dL_law_288 0 rfl ?_
          refine g_i2l C dL_law_290 ?_
          refine g_lcmp C dL_law_291 ?_
          refine g_if_eq (tgt := 297) C dL_law_292 (by decide) (fun c_12 => ?_) (fun c_12 => ?_)
          · replace h := it_t c_12 h
            refine g_goto (tgt := 2281) C dL_law_297 (by decide) ?_
            refine g_iinc (q := 7) (v := v5 + (6 : Int32)) (lv' := [(5, .int (v5 + (6 : Int32))), (7, .int r_9), (6, .int r_7), (0, .ref b), (1, .ref (oa (gw Γ) 0)), (2, .ref (oa (gw Γ) 95)), (3, .ref (oa (gw Γ) 108)), (4, .ref (oa (gw Γ) 109))]) C dL_law_2281 rfl rfl (by decide) rfl ?_
            refine g_goto (tgt := 28) C dL_law_2284 (by decide) ?_
            refine g_sub [3, 4, 5, 6, 7, 0] rfl ?_
            exact hrec (v5 + (6 : Int32)) m_10 _ (by omega) h
          · replace h := it_f c_12 h
            cases h
      · replace h := it_f c_14 h
        cases h
    · replace h := it_f c_15 h
      by_cases c_25 : ((xs v5.toNatClampNeg) &&& (63 : Int32)) = (1 : Int32)
      · replace h := it_t c_25 h
        refine g_tin (tgt := 300) (off := 255) C dL_law_45 (by rw [c_25]; decide) (by rw [c_25]; decide) (by rw [c_25]; rfl) (by decide) ?_
        refine g_aload_n C dL_law_300 1 rfl rfl ?_
        refine g_aload_n C dL_law_301 0 rfl rfl ?_
        refine g_iload C dL_law_302 5 rfl ?_
        refine g_iconst (v := (1 : Int32)) C dL_law_304 (by decide) ?_
        refine g_iadd C dL_law_305 ?_
        obtain ⟨g_16, h⟩ := gd_some h
        refine g_sld C S dL_law_306 g_16 ?_
        refine g_aload_n C dL_law_307 3 rfl rfl ?_
        obtain ⟨r_17, m_17, hk_17, h⟩ := b2_some h
        refine g_wI (As := [.ref (oa (gw Γ) 0), .int (xs (v5 + (1 : Int32)).toNatClampNeg), .ref (oa (gw Γ) 108)]) (mc' := 1) C dL_law_308 mf_L_truncate k_979 ⟨by decide, by decide⟩ rfl rfl (Nat.le_of_ble_eq_true rfl) (by omega) (c_L_truncate N (gl Γ) C.2.2.2.2 (gw Γ) 0 (xs (v5 + (1 : Int32)).toNatClampNeg) 108 m _ hk_17) ?_
        refine g_istore (lv' := [(6, .int r_17), (0, .ref b), (1, .ref (oa (gw Γ) 0)), (2, .ref (oa (gw Γ) 95)), (3, .ref (oa (gw Γ) 108)), (4, .ref (oa (gw Γ) 109)), (5, .int v5)]) C dL_law_311 (by decide) rfl ?_
        refine g_aload_n C dL_law_313 3 rfl rfl ?_
        refine g_aload_n C dL_law_314 1 rfl rfl ?_
        refine g_iload C dL_law_315 6 rfl ?_
        refine g_iconst (v := (1 : Int32)) C dL_law_317 (by decide) ?_
        refine g_iadd C dL_law_318 ?_
        refine g_sld C S dL_law_319 g_16 ?_
        obtain ⟨g_18, h⟩ := gd_some h
        obtain ⟨r_19, m_19, hk_19, h⟩ := b2_some h
        refine g_vI (As := [.int (xs (v5 + (1 : Int32)).toNatClampNeg)]) C dL_law_320 mf_X10_truncate k_980 rfl (by decide) ⟨by decide, by decide⟩ rfl rfl (Nat.le_of_ble_eq_true rfl) (by omega) g_18 (c_X10_truncate N (gl Γ) C.2.2.2.2 (gw Γ) 95 (xs (v5 + (1 : Int32)).toNatClampNeg) m_17 _ hk_19) ?_
        refine g_istore (lv' := [(7, .int r_19), (6, .int r_17), (0, .ref b), (1, .ref (oa (gw Γ) 0)), (2, .ref (oa (gw Γ) 95)), (3, .ref (oa (gw Γ) 108)), (4, .ref (oa (gw Γ) 109)), (5, .int v5)]) C dL_law_323 (by decide) rfl ?_
        refine g_aload_n C dL_law_325 4 rfl rfl ?_
        obtain ⟨r_20, m_20, hk_20, h⟩ := b2_some h
        refine g_vI (As := []) C dL_law_326 mf_X10_thrown k_975 rfl (by decide) ⟨by decide, by decide⟩ rfl rfl (Nat.le_of_ble_eq_true rfl) (by omega) g_18 (c_X10_thrown N (gl Γ) C.2.2.2.2 (gw Γ) 95 m_19 _ hk_20) ?_
        refine g_iload C dL_law_329 1 rfl ?_
        refine g_icmp_eq (tgt := 336) C dL_law_331 (by decide) (fun c_24 => ?_) (fun c_24 => ?_)
        · replace h := it_t c_24 h
          refine g_iload C dL_law_336 1 rfl ?_
          refine g_if_ne (tgt := 353) C dL_law_338 (by decide) (fun c_23 => ?_) (fun c_23 => ?_)
          · replace h := it_f c_23 h
            refine g_goto (tgt := 2281) C dL_law_353 (by decide) ?_
            refine g_iinc (q := 7) (v := v5 + (6 : Int32)) (lv' := [(5, .int (v5 + (6 : Int32))), (7, .int r_19), (6, .int r_17), (0, .ref b), (1, .ref (oa (gw Γ) 0)), (2, .ref (oa (gw Γ) 95)), (3, .ref (oa (gw Γ) 108)), (4, .ref (oa (gw Γ) 109))]) C dL_law_2281 rfl rfl (by decide) rfl ?_
            refine g_goto (tgt := 28) C dL_law_2284 (by decide) ?_
            refine g_sub [3, 4, 5, 6, 7, 0] rfl ?_
            exact hrec (v5 + (6 : Int32)) m_20 _ (by omega) h
          · replace h := it_t c_23 h
            refine g_aload_n C dL_law_341 5 rfl rfl ?_
            refine g_iconst (v := (0 : Int32)) C dL_law_342 (by decide) ?_
            obtain ⟨g_21, h⟩ := gd_some h
            refine g_lald C dL_law_343 g_21 ?_
            refine g_iload C dL_law_344 0 rfl ?_
            refine g_i2l C dL_law_346 ?_
            refine g_lcmp C dL_law_347 ?_
            refine g_if_eq (tgt := 353) C dL_law_348 (by decide) (fun c_22 => ?_) (fun c_22 => ?_)
            · replace h := it_t c_22 h
              refine g_goto (tgt := 2281) C dL_law_353 (by decide) ?_
              refine g_iinc (q := 7) (v := v5 + (6 : Int32)) (lv' := [(5, .int (v5 + (6 : Int32))), (7, .int r_19), (6, .int r_17), (0, .ref b), (1, .ref (oa (gw Γ) 0)), (2, .ref (oa (gw Γ) 95)), (3, .ref (oa (gw Γ) 108)), (4, .ref (oa (gw Γ) 109))]) C dL_law_2281 rfl rfl (by decide) rfl ?_
              refine g_goto (tgt := 28) C dL_law_2284 (by decide) ?_
              refine g_sub [3, 4, 5, 6, 7, 0] rfl ?_
              exact hrec (v5 + (6 : Int32)) m_20 _ (by omega) h
            · replace h := it_f c_22 h
              cases h
        · replace h := it_f c_24 h
          cases h
      · replace h := it_f c_25 h
        by_cases c_34 : ((xs v5.toNatClampNeg) &&& (63 : Int32)) = (2 : Int32)
        · replace h := it_t c_34 h
          refine g_tin (tgt := 356) (off := 311) C dL_law_45 (by rw [c_34]; decide) (by rw [c_34]; decide) (by rw [c_34]; rfl) (by decide) ?_
          refine g_aload_n C dL_law_356 1 rfl rfl ?_
          refine g_aload_n C dL_law_357 3 rfl rfl ?_
          obtain ⟨r_26, m_26, hk_26, h⟩ := b2_some h
          refine g_wI (As := [.ref (oa (gw Γ) 0), .ref (oa (gw Γ) 108)]) (mc' := 1) C dL_law_358 mf_L_load k_984 ⟨by decide, by decide⟩ rfl rfl (Nat.le_of_ble_eq_true rfl) (by omega) (c_L_load N (gl Γ) C.2.2.2.2 (gw Γ) 0 108 m _ hk_26) ?_
          refine g_istore (lv' := [(6, .int r_26), (0, .ref b), (1, .ref (oa (gw Γ) 0)), (2, .ref (oa (gw Γ) 95)), (3, .ref (oa (gw Γ) 108)), (4, .ref (oa (gw Γ) 109)), (5, .int v5)]) C dL_law_361 (by decide) rfl ?_
          refine g_aload_n C dL_law_363 3 rfl rfl ?_
          obtain ⟨g_27, h⟩ := gd_some h
          obtain ⟨r_28, m_28, hk_28, h⟩ := b2_some h
          refine g_vI (As := []) C dL_law_364 mf_X10_load k_985 rfl (by decide) ⟨by decide, by decide⟩ rfl rfl (Nat.le_of_ble_eq_true rfl) (by omega) g_27 (c_X10_load N (gl Γ) C.2.2.2.2 (gw Γ) 95 m_26 _ hk_28) ?_
          refine g_istore (lv' := [(7, .int r_28), (6, .int r_26), (0, .ref b), (1, .ref (oa (gw Γ) 0)), (2, .ref (oa (gw Γ) 95)), (3, .ref (oa (gw Γ) 108)), (4, .ref (oa (gw Γ) 109)), (5, .int v5)]) C dL_law_367 (by decide) rfl ?_
          refine g_aload_n C dL_law_369 4 rfl rfl ?_
          obtain ⟨r_29, m_29, hk_29, h⟩ := b2_some h
          refine g_vI (As := []) C dL_law_370 mf_X10_thrown k_975 rfl (by decide) ⟨by decide, by decide⟩ rfl rfl (Nat.le_of_ble_eq_true rfl) (by omega) g_27 (c_X10_thrown N (gl Γ) C.2.2.2.2 (gw Γ) 95 m_28 _ hk_29) ?_
          refine g_iload C dL_law_373 1 rfl ?_
          refine g_icmp_eq (tgt := 380) C dL_law_375 (by decide) (fun c_33 => ?_) (fun c_33 => ?_)
          · replace h := it_t c_33 h
            refine g_iload C dL_law_380 1 rfl ?_
            refine g_if_ne (tgt := 397) C dL_law_382 (by decide) (fun c_32 => ?_) (fun c_32 => ?_)
            · replace h := it_f c_32 h
              refine g_goto (tgt := 2281) C dL_law_397 (by decide) ?_
              refine g_iinc (q := 7) (v := v5 + (6 : Int32)) (lv' := [(5, .int (v5 + (6 : Int32))), (7, .int r_28), (6, .int r_26), (0, .ref b), (1, .ref (oa (gw Γ) 0)), (2, .ref (oa (gw Γ) 95)), (3, .ref (oa (gw Γ) 108)), (4, .ref (oa (gw Γ) 109))]) C dL_law_2281 rfl rfl (by decide) rfl ?_
              refine g_goto (tgt := 28) C dL_law_2284 (by decide) ?_
              refine g_sub [3, 4, 5, 6, 7, 0] rfl ?_
              exact hrec (v5 + (6 : Int32)) m_29 _ (by omega) h
            · replace h := it_t c_32 h
              refine g_aload_n C dL_law_385 5 rfl rfl ?_
              refine g_iconst (v := (0 : Int32)) C dL_law_386 (by decide) ?_
              obtain ⟨g_30, h⟩ := gd_some h
              refine g_lald C dL_law_387 g_30 ?_
              refine g_iload C dL_law_388 0 rfl ?_
              refine g_i2l C dL_law_390 ?_
              refine g_lcmp C dL_law_391 ?_
              refine g_if_eq (tgt := 397) C dL_law_392 (by decide) (fun c_31 => ?_) (fun c_31 => ?_)
              · replace h := it_t c_31 h
                refine g_goto (tgt := 2281) C dL_law_397 (by decide) ?_
                refine g_iinc (q := 7) (v := v5 + (6 : Int32)) (lv' := [(5, .int (v5 + (6 : Int32))), (7, .int r_28), (6, .int r_26), (0, .ref b), (1, .ref (oa (gw Γ) 0)), (2, .ref (oa (gw Γ) 95)), (3, .ref (oa (gw Γ) 108)), (4, .ref (oa (gw Γ) 109))]) C dL_law_2281 rfl rfl (by decide) rfl ?_
                refine g_goto (tgt := 28) C dL_law_2284 (by decide) ?_
                refine g_sub [3, 4, 5, 6, 7, 0] rfl ?_
                exact hrec (v5 + (6 : Int32)) m_29 _ (by omega) h
              · replace h := it_f c_31 h
                cases h
          · replace h := it_f c_33 h
            cases h
        · replace h := it_f c_34 h
          by_cases c_40 : ((xs v5.toNatClampNeg) &&& (63 : Int32)) = (3 : Int32)
          · replace h := it_t c_40 h
            refine g_tin (tgt := 400) (off := 355) C dL_law_45 (by rw [c_40]; decide) (by rw [c_40]; decide) (by rw [c_40]; rfl) (by decide) ?_
            refine g_aload_n C dL_law_400 1 rfl rfl ?_
            obtain ⟨g_35, h⟩ := gd_some h
            obtain ⟨r_36, m_36, hk_36, h⟩ := b2_some h
            refine g_vI (As := []) C dL_law_401 mf_X9_errorCode k_989 rfl (by decide) ⟨by decide, by decide⟩ rfl rfl (Nat.le_of_ble_eq_true rfl) (by omega) g_35 (c_X9_errorCode N (gl Γ) C.2.2.2.2 (gw Γ) 0 m _ hk_36) ?_
            refine g_aload_n C dL_law_404 2 rfl rfl ?_
            obtain ⟨g_37, h⟩ := gd_some h
            obtain ⟨r_38, m_38, hk_38, h⟩ := b2_some h
            refine g_vI (As := []) C dL_law_405 mf_X10_errorCode k_993 rfl (by decide) ⟨by decide, by decide⟩ rfl rfl (Nat.le_of_ble_eq_true rfl) (by omega) g_37 (c_X10_errorCode N (gl Γ) C.2.2.2.2 (gw Γ) 95 m_36 _ hk_38) ?_
            refine g_icmp_eq (tgt := 2281) C dL_law_408 (by decide) (fun c_39 => ?_) (fun c_39 => ?_)
            · replace h := it_t c_39 h
              refine g_iinc (q := 5) (v := v5 + (6 : Int32)) (lv' := [(5, .int (v5 + (6 : Int32))), (0, .ref b), (1, .ref (oa (gw Γ) 0)), (2, .ref (oa (gw Γ) 95)), (3, .ref (oa (gw Γ) 108)), (4, .ref (oa (gw Γ) 109))]) C dL_law_2281 rfl rfl (by decide) rfl ?_
              refine g_goto (tgt := 28) C dL_law_2284 (by decide) ?_
              refine g_sub [1, 2, 3, 4, 5, 0] rfl ?_
              exact hrec (v5 + (6 : Int32)) m_38 _ (by omega) h
            · replace h := it_f c_39 h
              cases h
          · replace h := it_f c_40 h
            by_cases c_46 : ((xs v5.toNatClampNeg) &&& (63 : Int32)) = (4 : Int32)
            · replace h := it_t c_46 h
              refine g_tin (tgt := 413) (off := 368) C dL_law_45 (by rw [c_46]; decide) (by rw [c_46]; decide) (by rw [c_46]; rfl) (by decide) ?_
              refine g_aload_n C dL_law_413 1 rfl rfl ?_
              obtain ⟨g_41, h⟩ := gd_some h
              obtain ⟨r_42, m_42, hk_42, h⟩ := b2_some h
              refine g_vI (As := []) C dL_law_414 mf_X9_errorPosition k_997 rfl (by decide) ⟨by decide, by decide⟩ rfl rfl (Nat.le_of_ble_eq_true rfl) (by omega) g_41 (c_X9_errorPosition N (gl Γ) C.2.2.2.2 (gw Γ) 0 m _ hk_42) ?_
              refine g_aload_n C dL_law_417 2 rfl rfl ?_
              obtain ⟨g_43, h⟩ := gd_some h
              obtain ⟨r_44, m_44, hk_44, h⟩ := b2_some h
              refine g_vI (As := []) C dL_law_418 mf_X10_errorPosition k_1001 rfl (by decide) ⟨by decide, by decide⟩ rfl rfl (Nat.le_of_ble_eq_true rfl) (by omega) g_43 (c_X10_errorPosition N (gl Γ) C.2.2.2.2 (gw Γ) 95 m_42 _ hk_44) ?_
              refine g_icmp_eq (tgt := 2281) C dL_law_421 (by decide) (fun c_45 => ?_) (fun c_45 => ?_)
              · replace h := it_t c_45 h
                refine g_iinc (q := 5) (v := v5 + (6 : Int32)) (lv' := [(5, .int (v5 + (6 : Int32))), (0, .ref b), (1, .ref (oa (gw Γ) 0)), (2, .ref (oa (gw Γ) 95)), (3, .ref (oa (gw Γ) 108)), (4, .ref (oa (gw Γ) 109))]) C dL_law_2281 rfl rfl (by decide) rfl ?_
                refine g_goto (tgt := 28) C dL_law_2284 (by decide) ?_
                refine g_sub [1, 2, 3, 4, 5, 0] rfl ?_
                exact hrec (v5 + (6 : Int32)) m_44 _ (by omega) h
              · replace h := it_f c_45 h
                cases h
            · replace h := it_f c_46 h
              by_cases c_56 : ((xs v5.toNatClampNeg) &&& (63 : Int32)) = (5 : Int32)
              · replace h := it_t c_56 h
                refine g_tin (tgt := 426) (off := 381) C dL_law_45 (by rw [c_56]; decide) (by rw [c_56]; decide) (by rw [c_56]; rfl) (by decide) ?_
                refine g_aload_n C dL_law_426 1 rfl rfl ?_
                refine g_aload_n C dL_law_427 0 rfl rfl ?_
                refine g_iload C dL_law_428 5 rfl ?_
                refine g_iconst (v := (1 : Int32)) C dL_law_430 (by decide) ?_
                refine g_iadd C dL_law_431 ?_
                obtain ⟨g_47, h⟩ := gd_some h
                refine g_sld C S dL_law_432 g_47 ?_
                refine g_aload_n C dL_law_433 3 rfl rfl ?_
                obtain ⟨r_48, m_48, hk_48, h⟩ := b2_some h
                refine g_wI (As := [.ref (oa (gw Γ) 0), .int (xs (v5 + (1 : Int32)).toNatClampNeg), .ref (oa (gw Γ) 108)]) (mc' := 1) C dL_law_434 mf_L_count k_1005 ⟨by decide, by decide⟩ rfl rfl (Nat.le_of_ble_eq_true rfl) (by omega) (c_L_count N (gl Γ) C.2.2.2.2 (gw Γ) 0 (xs (v5 + (1 : Int32)).toNatClampNeg) 108 m _ hk_48) ?_
                refine g_istore (lv' := [(6, .int r_48), (0, .ref b), (1, .ref (oa (gw Γ) 0)), (2, .ref (oa (gw Γ) 95)), (3, .ref (oa (gw Γ) 108)), (4, .ref (oa (gw Γ) 109)), (5, .int v5)]) C dL_law_437 (by decide) rfl ?_
                refine g_aload_n C dL_law_439 3 rfl rfl ?_
                refine g_aload_n C dL_law_440 1 rfl rfl ?_
                refine g_iload C dL_law_441 6 rfl ?_
                refine g_iconst (v := (1 : Int32)) C dL_law_443 (by decide) ?_
                refine g_iadd C dL_law_444 ?_
                refine g_sld C S dL_law_445 g_47 ?_
                obtain ⟨g_49, h⟩ := gd_some h
                obtain ⟨r_50, m_50, hk_50, h⟩ := b2_some h
                refine g_vI (As := [.int (xs (v5 + (1 : Int32)).toNatClampNeg)]) C dL_law_446 mf_X10_count k_1006 rfl (by decide) ⟨by decide, by decide⟩ rfl rfl (Nat.le_of_ble_eq_true rfl) (by omega) g_49 (c_X10_count N (gl Γ) C.2.2.2.2 (gw Γ) 95 (xs (v5 + (1 : Int32)).toNatClampNeg) m_48 _ hk_50) ?_
                refine g_istore (lv' := [(7, .int r_50), (6, .int r_48), (0, .ref b), (1, .ref (oa (gw Γ) 0)), (2, .ref (oa (gw Γ) 95)), (3, .ref (oa (gw Γ) 108)), (4, .ref (oa (gw Γ) 109)), (5, .int v5)]) C dL_law_449 (by decide) rfl ?_
                refine g_aload_n C dL_law_451 4 rfl rfl ?_
                obtain ⟨r_51, m_51, hk_51, h⟩ := b2_some h
                refine g_vI (As := []) C dL_law_452 mf_X10_thrown k_975 rfl (by decide) ⟨by decide, by decide⟩ rfl rfl (Nat.le_of_ble_eq_true rfl) (by omega) g_49 (c_X10_thrown N (gl Γ) C.2.2.2.2 (gw Γ) 95 m_50 _ hk_51) ?_
                refine g_iload C dL_law_455 1 rfl ?_
                refine g_icmp_eq (tgt := 462) C dL_law_457 (by decide) (fun c_55 => ?_) (fun c_55 => ?_)
                · replace h := it_t c_55 h
                  refine g_iload C dL_law_462 1 rfl ?_
                  refine g_if_ne (tgt := 479) C dL_law_464 (by decide) (fun c_54 => ?_) (fun c_54 => ?_)
                  · replace h := it_f c_54 h
                    refine g_goto (tgt := 2281) C dL_law_479 (by decide) ?_
                    refine g_iinc (q := 7) (v := v5 + (6 : Int32)) (lv' := [(5, .int (v5 + (6 : Int32))), (7, .int r_50), (6, .int r_48), (0, .ref b), (1, .ref (oa (gw Γ) 0)), (2, .ref (oa (gw Γ) 95)), (3, .ref (oa (gw Γ) 108)), (4, .ref (oa (gw Γ) 109))]) C dL_law_2281 rfl rfl (by decide) rfl ?_
                    refine g_goto (tgt := 28) C dL_law_2284 (by decide) ?_
                    refine g_sub [3, 4, 5, 6, 7, 0] rfl ?_
                    exact hrec (v5 + (6 : Int32)) m_51 _ (by omega) h
                  · replace h := it_t c_54 h
                    refine g_aload_n C dL_law_467 5 rfl rfl ?_
                    refine g_iconst (v := (0 : Int32)) C dL_law_468 (by decide) ?_
                    obtain ⟨g_52, h⟩ := gd_some h
                    refine g_lald C dL_law_469 g_52 ?_
                    refine g_iload C dL_law_470 0 rfl ?_
                    refine g_i2l C dL_law_472 ?_
                    refine g_lcmp C dL_law_473 ?_
                    refine g_if_eq (tgt := 479) C dL_law_474 (by decide) (fun c_53 => ?_) (fun c_53 => ?_)
                    · replace h := it_t c_53 h
                      refine g_goto (tgt := 2281) C dL_law_479 (by decide) ?_
                      refine g_iinc (q := 7) (v := v5 + (6 : Int32)) (lv' := [(5, .int (v5 + (6 : Int32))), (7, .int r_50), (6, .int r_48), (0, .ref b), (1, .ref (oa (gw Γ) 0)), (2, .ref (oa (gw Γ) 95)), (3, .ref (oa (gw Γ) 108)), (4, .ref (oa (gw Γ) 109))]) C dL_law_2281 rfl rfl (by decide) rfl ?_
                      refine g_goto (tgt := 28) C dL_law_2284 (by decide) ?_
                      refine g_sub [3, 4, 5, 6, 7, 0] rfl ?_
                      exact hrec (v5 + (6 : Int32)) m_51 _ (by omega) h
                    · replace h := it_f c_53 h
                      cases h
                · replace h := it_f c_55 h
                  cases h
              · replace h := it_f c_56 h
                by_cases c_68 : ((xs v5.toNatClampNeg) &&& (63 : Int32)) = (6 : Int32)
                · replace h := it_t c_68 h
                  refine g_tin (tgt := 482) (off := 437) C dL_law_45 (by rw [c_68]; decide) (by rw [c_68]; decide) (by rw [c_68]; rfl) (by decide) ?_
                  refine g_aload_n C dL_law_482 1 rfl rfl ?_
                  refine g_aload_n C dL_law_483 0 rfl rfl ?_
                  refine g_iload C dL_law_484 5 rfl ?_
                  refine g_iconst (v := (1 : Int32)) C dL_law_486 (by decide) ?_
                  refine g_iadd C dL_law_487 ?_
                  obtain ⟨g_57, h⟩ := gd_some h
                  refine g_sld C S dL_law_488 g_57 ?_
                  refine g_aload_n C dL_law_489 0 rfl rfl ?_
                  refine g_iload C dL_law_490 5 rfl ?_
                  refine g_iconst (v := (2 : Int32)) C dL_law_492 (by decide) ?_
                  refine g_iadd C dL_law_493 ?_
                  obtain ⟨g_58, h⟩ := gd_some h
                  refine g_sld C S dL_law_494 g_58 ?_
                  refine g_aload_n C dL_law_495 3 rfl rfl ?_
                  obtain ⟨r_59, m_59, hk_59, h⟩ := b2_some h
                  refine g_wI (As := [.ref (oa (gw Γ) 0), .int (xs (v5 + (1 : Int32)).toNatClampNeg), .int (xs (v5 + (2 : Int32)).toNatClampNeg), .ref (oa (gw Γ) 108)]) (mc' := 2) C dL_law_496 mf_L_isConflict k_1010 ⟨by decide, by decide⟩ rfl rfl (Nat.le_of_ble_eq_true rfl) (by omega) (c_L_isConflict N (gl Γ) C.2.2.2.2 (gw Γ) 0 (xs (v5 + (1 : Int32)).toNatClampNeg) (xs (v5 + (2 : Int32)).toNatClampNeg) 108 m _ hk_59) ?_
                  refine g_istore (lv' := [(6, .int r_59), (0, .ref b), (1, .ref (oa (gw Γ) 0)), (2, .ref (oa (gw Γ) 95)), (3, .ref (oa (gw Γ) 108)), (4, .ref (oa (gw Γ) 109)), (5, .int v5)]) C dL_law_499 (by decide) rfl ?_
                  refine g_aload_n C dL_law_501 3 rfl rfl ?_
                  refine g_aload_n C dL_law_502 1 rfl rfl ?_
                  refine g_iload C dL_law_503 6 rfl ?_
                  refine g_iconst (v := (1 : Int32)) C dL_law_505 (by decide) ?_
                  refine g_iadd C dL_law_506 ?_
                  refine g_sld C S dL_law_507 g_57 ?_
                  refine g_aload_n C dL_law_508 1 rfl rfl ?_
                  refine g_iload C dL_law_509 6 rfl ?_
                  refine g_iconst (v := (2 : Int32)) C dL_law_511 (by decide) ?_
                  refine g_iadd C dL_law_512 ?_
                  refine g_sld C S dL_law_513 g_58 ?_
                  obtain ⟨g_60, h⟩ := gd_some h
                  obtain ⟨r_61, m_61, hk_61, h⟩ := b2_some h
                  refine g_vI (As := [.int (xs (v5 + (1 : Int32)).toNatClampNeg), .int (xs (v5 + (2 : Int32)).toNatClampNeg)]) C dL_law_514 mf_X10_isConflict k_1011 rfl (by decide) ⟨by decide, by decide⟩ rfl rfl (Nat.le_of_ble_eq_true rfl) (by omega) g_60 (c_X10_isConflict N (gl Γ) C.2.2.2.2 (gw Γ) 95 (xs (v5 + (1 : Int32)).toNatClampNeg) (xs (v5 + (2 : Int32)).toNatClampNeg) m_59 _ hk_61) ?_
                  refine g_istore (lv' := [(7, .int r_61), (6, .int r_59), (0, .ref b), (1, .ref (oa (gw Γ) 0)), (2, .ref (oa (gw Γ) 95)), (3, .ref (oa (gw Γ) 108)), (4, .ref (oa (gw Γ) 109)), (5, .int v5)]) C dL_law_517 (by decide) rfl ?_
                  refine g_aload_n C dL_law_519 4 rfl rfl ?_
                  obtain ⟨r_62, m_62, hk_62, h⟩ := b2_some h
                  refine g_vI (As := []) C dL_law_520 mf_X10_thrown k_975 rfl (by decide) ⟨by decide, by decide⟩ rfl rfl (Nat.le_of_ble_eq_true rfl) (by omega) g_60 (c_X10_thrown N (gl Γ) C.2.2.2.2 (gw Γ) 95 m_61 _ hk_62) ?_
                  refine g_iload C dL_law_523 1 rfl ?_
                  refine g_icmp_eq (tgt := 530) C dL_law_525 (by decide) (fun c_67 => ?_) (fun c_67 => ?_)
                  · replace h := it_t c_67 h
                    refine g_iload C dL_law_530 1 rfl ?_
                    refine g_if_ne (tgt := 554) C dL_law_532 (by decide) (fun c_66 => ?_) (fun c_66 => ?_)
                    · replace h := it_f c_66 h
                      refine g_goto (tgt := 2281) C dL_law_554 (by decide) ?_
                      refine g_iinc (q := 7) (v := v5 + (6 : Int32)) (lv' := [(5, .int (v5 + (6 : Int32))), (7, .int r_61), (6, .int r_59), (0, .ref b), (1, .ref (oa (gw Γ) 0)), (2, .ref (oa (gw Γ) 95)), (3, .ref (oa (gw Γ) 108)), (4, .ref (oa (gw Γ) 109))]) C dL_law_2281 rfl rfl (by decide) rfl ?_
                      refine g_goto (tgt := 28) C dL_law_2284 (by decide) ?_
                      refine g_sub [3, 4, 5, 6, 7, 0] rfl ?_
                      exact hrec (v5 + (6 : Int32)) m_62 _ (by omega) h
                    · replace h := it_t c_66 h
                      refine g_aload_n C dL_law_535 5 rfl rfl ?_
                      refine g_iconst (v := (0 : Int32)) C dL_law_536 (by decide) ?_
                      obtain ⟨g_63, h⟩ := gd_some h
                      refine g_lald C dL_law_537 g_63 ?_
                      refine g_iload C dL_law_538 0 rfl ?_
                      refine g_if_eq (tgt := 547) C dL_law_540 (by decide) (fun c_65 => ?_) (fun c_65 => ?_)
                      · replace h := it_t c_65 h
                        refine g_lconst (v := (0 : Int64)) C dL_law_547 (by decide) ?_
                        refine g_sub [2, 3, 4, 5, 6, 7] rfl ?_
                        exact t_L_law_548 N Γ C b L xs S o rc cm _ (by omega) hcm hE hrec v5 (0 : Int64) (gJ m_62 108 (0 : Int32).toNatClampNeg) m_62 h
                      · replace h := it_f c_65 h
                        refine g_lconst (v := (1 : Int64)) C dL_law_543 (by decide) ?_
                        refine g_goto (tgt := 548) C dL_law_544 (by decide) ?_
                        refine g_sub [2, 3, 4, 5, 6, 7] rfl ?_
                        exact t_L_law_548 N Γ C b L xs S o rc cm _ (by omega) hcm hE hrec v5 (1 : Int64) (gJ m_62 108 (0 : Int32).toNatClampNeg) m_62 h
                  · replace h := it_f c_67 h
                    cases h
                · replace h := it_f c_68 h
                  by_cases c_79 : ((xs v5.toNatClampNeg) &&& (63 : Int32)) = (7 : Int32)
                  · replace h := it_t c_79 h
                    refine g_tin (tgt := 557) (off := 512) C dL_law_45 (by rw [c_79]; decide) (by rw [c_79]; decide) (by rw [c_79]; rfl) (by decide) ?_
                    refine g_aload_n C dL_law_557 1 rfl rfl ?_
                    refine g_aload_n C dL_law_558 0 rfl rfl ?_
                    refine g_iload C dL_law_559 5 rfl ?_
                    refine g_iconst (v := (1 : Int32)) C dL_law_561 (by decide) ?_
                    refine g_iadd C dL_law_562 ?_
                    obtain ⟨g_69, h⟩ := gd_some h
                    refine g_sld C S dL_law_563 g_69 ?_
                    refine g_aload_n C dL_law_564 0 rfl rfl ?_
                    refine g_iload C dL_law_565 5 rfl ?_
                    refine g_iconst (v := (2 : Int32)) C dL_law_567 (by decide) ?_
                    refine g_iadd C dL_law_568 ?_
                    obtain ⟨g_70, h⟩ := gd_some h
                    refine g_sld C S dL_law_569 g_70 ?_
                    refine g_aload_n C dL_law_570 3 rfl rfl ?_
                    obtain ⟨r_71, m_71, hk_71, h⟩ := b2_some h
                    refine g_wI (As := [.ref (oa (gw Γ) 0), .int (xs (v5 + (1 : Int32)).toNatClampNeg), .int (xs (v5 + (2 : Int32)).toNatClampNeg), .ref (oa (gw Γ) 108)]) (mc' := 2) C dL_law_571 mf_L_match k_1015 ⟨by decide, by decide⟩ rfl rfl (Nat.le_of_ble_eq_true rfl) (by omega) (c_L_match N (gl Γ) C.2.2.2.2 (gw Γ) 0 (xs (v5 + (1 : Int32)).toNatClampNeg) (xs (v5 + (2 : Int32)).toNatClampNeg) 108 m _ hk_71) ?_
                    refine g_istore (lv' := [(6, .int r_71), (0, .ref b), (1, .ref (oa (gw Γ) 0)), (2, .ref (oa (gw Γ) 95)), (3, .ref (oa (gw Γ) 108)), (4, .ref (oa (gw Γ) 109)), (5, .int v5)]) C dL_law_574 (by decide) rfl ?_
                    refine g_aload_n C dL_law_576 3 rfl rfl ?_
                    refine g_aload_n C dL_law_577 1 rfl rfl ?_
                    refine g_iload C dL_law_578 6 rfl ?_
                    refine g_iconst (v := (1 : Int32)) C dL_law_580 (by decide) ?_
                    refine g_iadd C dL_law_581 ?_
                    refine g_sld C S dL_law_582 g_69 ?_
                    refine g_aload_n C dL_law_583 1 rfl rfl ?_
                    refine g_iload C dL_law_584 6 rfl ?_
                    refine g_iconst (v := (2 : Int32)) C dL_law_586 (by decide) ?_
                    refine g_iadd C dL_law_587 ?_
                    refine g_sld C S dL_law_588 g_70 ?_
                    obtain ⟨g_72, h⟩ := gd_some h
                    obtain ⟨r_73, m_73, hk_73, h⟩ := b2_some h
                    refine g_vI (As := [.int (xs (v5 + (1 : Int32)).toNatClampNeg), .int (xs (v5 + (2 : Int32)).toNatClampNeg)]) C dL_law_589 mf_X10_match k_1016 rfl (by decide) ⟨by decide, by decide⟩ rfl rfl (Nat.le_of_ble_eq_true rfl) (by omega) g_72 (c_X10_match N (gl Γ) C.2.2.2.2 (gw Γ) 95 (xs (v5 + (1 : Int32)).toNatClampNeg) (xs (v5 + (2 : Int32)).toNatClampNeg) m_71 _ hk_73) ?_
                    refine g_istore (lv' := [(7, .int r_73), (6, .int r_71), (0, .ref b), (1, .ref (oa (gw Γ) 0)), (2, .ref (oa (gw Γ) 95)), (3, .ref (oa (gw Γ) 108)), (4, .ref (oa (gw Γ) 109)), (5, .int v5)]) C dL_law_592 (by decide) rfl ?_
                    refine g_aload_n C dL_law_594 4 rfl rfl ?_
                    obtain ⟨r_74, m_74, hk_74, h⟩ := b2_some h
                    refine g_vI (As := []) C dL_law_595 mf_X10_thrown k_975 rfl (by decide) ⟨by decide, by decide⟩ rfl rfl (Nat.le_of_ble_eq_true rfl) (by omega) g_72 (c_X10_thrown N (gl Γ) C.2.2.2.2 (gw Γ) 95 m_73 _ hk_74) ?_
                    refine g_iload C dL_law_598 1 rfl ?_
                    refine g_icmp_eq (tgt := 605) C dL_law_600 (by decide) (fun c_78 => ?_) (fun c_78 => ?_)
                    · replace h := it_t c_78 h
                      refine g_iload C dL_law_605 1 rfl ?_
                      refine g_if_ne (tgt := 622) C dL_law_607 (by decide) (fun c_77 => ?_) (fun c_77 => ?_)
                      · replace h := it_f c_77 h
                        refine g_goto (tgt := 2281) C dL_law_622 (by decide) ?_
                        refine g_iinc (q := 7) (v := v5 + (6 : Int32)) (lv' := [(5, .int (v5 + (6 : Int32))), (7, .int r_73), (6, .int r_71), (0, .ref b), (1, .ref (oa (gw Γ) 0)), (2, .ref (oa (gw Γ) 95)), (3, .ref (oa (gw Γ) 108)), (4, .ref (oa (gw Γ) 109))]) C dL_law_2281 rfl rfl (by decide) rfl ?_
                        refine g_goto (tgt := 28) C dL_law_2284 (by decide) ?_
                        refine g_sub [3, 4, 5, 6, 7, 0] rfl ?_
                        exact hrec (v5 + (6 : Int32)) m_74 _ (by omega) h
                      · replace h := it_t c_77 h
                        refine g_aload_n C dL_law_610 5 rfl rfl ?_
                        refine g_iconst (v := (0 : Int32)) C dL_law_611 (by decide) ?_
                        obtain ⟨g_75, h⟩ := gd_some h
                        refine g_lald C dL_law_612 g_75 ?_
                        refine g_iload C dL_law_613 0 rfl ?_
                        refine g_i2l C dL_law_615 ?_
                        refine g_lcmp C dL_law_616 ?_
                        refine g_if_eq (tgt := 622) C dL_law_617 (by decide) (fun c_76 => ?_) (fun c_76 => ?_)
                        · replace h := it_t c_76 h
                          refine g_goto (tgt := 2281) C dL_law_622 (by decide) ?_
                          refine g_iinc (q := 7) (v := v5 + (6 : Int32)) (lv' := [(5, .int (v5 + (6 : Int32))), (7, .int r_73), (6, .int r_71), (0, .ref b), (1, .ref (oa (gw Γ) 0)), (2, .ref (oa (gw Γ) 95)), (3, .ref (oa (gw Γ) 108)), (4, .ref (oa (gw Γ) 109))]) C dL_law_2281 rfl rfl (by decide) rfl ?_
                          refine g_goto (tgt := 28) C dL_law_2284 (by decide) ?_
                          refine g_sub [3, 4, 5, 6, 7, 0] rfl ?_
                          exact hrec (v5 + (6 : Int32)) m_74 _ (by omega) h
                        · replace h := it_f c_76 h
                          cases h
                    · replace h := it_f c_78 h
                      cases h
                  · replace h := it_f c_79 h
                    by_cases c_91 : ((xs v5.toNatClampNeg) &&& (63 : Int32)) = (8 : Int32)
                    · replace h := it_t c_91 h
                      refine g_tin (tgt := 625) (off := 580) C dL_law_45 (by rw [c_91]; decide) (by rw [c_91]; decide) (by rw [c_91]; rfl) (by decide) ?_
                      refine g_aload_n C dL_law_625 1 rfl rfl ?_
                      refine g_aload_n C dL_law_626 0 rfl rfl ?_
                      refine g_iload C dL_law_627 5 rfl ?_
                      refine g_iconst (v := (1 : Int32)) C dL_law_629 (by decide) ?_
                      refine g_iadd C dL_law_630 ?_
                      obtain ⟨g_80, h⟩ := gd_some h
                      refine g_sld C S dL_law_631 g_80 ?_
                      refine g_aload_n C dL_law_632 0 rfl rfl ?_
                      refine g_iload C dL_law_633 5 rfl ?_
                      refine g_iconst (v := (2 : Int32)) C dL_law_635 (by decide) ?_
                      refine g_iadd C dL_law_636 ?_
                      obtain ⟨g_81, h⟩ := gd_some h
                      refine g_sld C S dL_law_637 g_81 ?_
                      refine g_aload_n C dL_law_638 3 rfl rfl ?_
                      obtain ⟨r_82, m_82, hk_82, h⟩ := b2_some h
                      refine g_wI (As := [.ref (oa (gw Γ) 0), .int (xs (v5 + (1 : Int32)).toNatClampNeg), .int (xs (v5 + (2 : Int32)).toNatClampNeg), .ref (oa (gw Γ) 108)]) (mc' := 3) C dL_law_639 mf_L_declare k_1020 ⟨by decide, by decide⟩ rfl rfl (Nat.le_of_ble_eq_true rfl) (by omega) (c_L_declare N (gl Γ) C.2.2.2.2 (gw Γ) 0 (xs (v5 + (1 : Int32)).toNatClampNeg) (xs (v5 + (2 : Int32)).toNatClampNeg) 108 m _ hk_82) ?_
                      refine g_istore (lv' := [(6, .int r_82), (0, .ref b), (1, .ref (oa (gw Γ) 0)), (2, .ref (oa (gw Γ) 95)), (3, .ref (oa (gw Γ) 108)), (4, .ref (oa (gw Γ) 109)), (5, .int v5)]) C dL_law_642 (by decide) rfl ?_
                      refine g_aload_n C dL_law_644 3 rfl rfl ?_
                      refine g_aload_n C dL_law_645 1 rfl rfl ?_
                      refine g_iload C dL_law_646 6 rfl ?_
                      refine g_iconst (v := (1 : Int32)) C dL_law_648 (by decide) ?_
                      refine g_iadd C dL_law_649 ?_
                      refine g_sld C S dL_law_650 g_80 ?_
                      refine g_aload_n C dL_law_651 1 rfl rfl ?_
                      refine g_iload C dL_law_652 6 rfl ?_
                      refine g_iconst (v := (2 : Int32)) C dL_law_654 (by decide) ?_
                      refine g_iadd C dL_law_655 ?_
                      refine g_sld C S dL_law_656 g_81 ?_
                      obtain ⟨g_83, h⟩ := gd_some h
                      obtain ⟨r_84, m_84, hk_84, h⟩ := b2_some h
                      refine g_vI (As := [.int (xs (v5 + (1 : Int32)).toNatClampNeg), .int (xs (v5 + (2 : Int32)).toNatClampNeg)]) C dL_law_657 mf_X10_declare k_1021 rfl (by decide) ⟨by decide, by decide⟩ rfl rfl (Nat.le_of_ble_eq_true rfl) (by omega) g_83 (c_X10_declare N (gl Γ) C.2.2.2.2 (gw Γ) 95 (xs (v5 + (1 : Int32)).toNatClampNeg) (xs (v5 + (2 : Int32)).toNatClampNeg) m_82 _ hk_84) ?_
                      refine g_istore (lv' := [(7, .int r_84), (6, .int r_82), (0, .ref b), (1, .ref (oa (gw Γ) 0)), (2, .ref (oa (gw Γ) 95)), (3, .ref (oa (gw Γ) 108)), (4, .ref (oa (gw Γ) 109)), (5, .int v5)]) C dL_law_660 (by decide) rfl ?_
                      refine g_aload_n C dL_law_662 4 rfl rfl ?_
                      obtain ⟨r_85, m_85, hk_85, h⟩ := b2_some h
                      refine g_vI (As := []) C dL_law_663 mf_X10_thrown k_975 rfl (by decide) ⟨by decide, by decide⟩ rfl rfl (Nat.le_of_ble_eq_true rfl) (by omega) g_83 (c_X10_thrown N (gl Γ) C.2.2.2.2 (gw Γ) 95 m_84 _ hk_85) ?_
                      refine g_iload C dL_law_666 1 rfl ?_
                      refine g_icmp_eq (tgt := 673) C dL_law_668 (by decide) (fun c_90 => ?_) (fun c_90 => ?_)
                      · replace h := it_t c_90 h
                        refine g_iload C dL_law_673 1 rfl ?_
                        refine g_if_ne (tgt := 697) C dL_law_675 (by decide) (fun c_89 => ?_) (fun c_89 => ?_)
                        · replace h := it_f c_89 h
                          refine g_goto (tgt := 2281) C dL_law_697 (by decide) ?_
                          refine g_iinc (q := 7) (v := v5 + (6 : Int32)) (lv' := [(5, .int (v5 + (6 : Int32))), (7, .int r_84), (6, .int r_82), (0, .ref b), (1, .ref (oa (gw Γ) 0)), (2, .ref (oa (gw Γ) 95)), (3, .ref (oa (gw Γ) 108)), (4, .ref (oa (gw Γ) 109))]) C dL_law_2281 rfl rfl (by decide) rfl ?_
                          refine g_goto (tgt := 28) C dL_law_2284 (by decide) ?_
                          refine g_sub [3, 4, 5, 6, 7, 0] rfl ?_
                          exact hrec (v5 + (6 : Int32)) m_85 _ (by omega) h
                        · replace h := it_t c_89 h
                          refine g_aload_n C dL_law_678 5 rfl rfl ?_
                          refine g_iconst (v := (0 : Int32)) C dL_law_679 (by decide) ?_
                          obtain ⟨g_86, h⟩ := gd_some h
                          refine g_lald C dL_law_680 g_86 ?_
                          refine g_iload C dL_law_681 0 rfl ?_
                          refine g_if_eq (tgt := 690) C dL_law_683 (by decide) (fun c_88 => ?_) (fun c_88 => ?_)
                          · replace h := it_t c_88 h
                            refine g_lconst (v := (0 : Int64)) C dL_law_690 (by decide) ?_
                            refine g_sub [2, 3, 4, 5, 6, 7] rfl ?_
                            exact t_L_law_691 N Γ C b L xs S o rc cm _ (by omega) hcm hE hrec v5 (0 : Int64) (gJ m_85 108 (0 : Int32).toNatClampNeg) m_85 h
                          · replace h := it_f c_88 h
                            refine g_lconst (v := (1 : Int64)) C dL_law_686 (by decide) ?_
                            refine g_goto (tgt := 691) C dL_law_687 (by decide) ?_
                            refine g_sub [2, 3, 4, 5, 6, 7] rfl ?_
                            exact t_L_law_691 N Γ C b L xs S o rc cm _ (by omega) hcm hE hrec v5 (1 : Int64) (gJ m_85 108 (0 : Int32).toNatClampNeg) m_85 h
                      · replace h := it_f c_90 h
                        cases h
                    · replace h := it_f c_91 h
                      by_cases c_102 : ((xs v5.toNatClampNeg) &&& (63 : Int32)) = (9 : Int32)
                      · replace h := it_t c_102 h
                        refine g_tin (tgt := 700) (off := 655) C dL_law_45 (by rw [c_102]; decide) (by rw [c_102]; decide) (by rw [c_102]; rfl) (by decide) ?_
                        refine g_aload_n C dL_law_700 1 rfl rfl ?_
                        refine g_aload_n C dL_law_701 0 rfl rfl ?_
                        refine g_iload C dL_law_702 5 rfl ?_
                        refine g_iconst (v := (1 : Int32)) C dL_law_704 (by decide) ?_
                        refine g_iadd C dL_law_705 ?_
                        obtain ⟨g_92, h⟩ := gd_some h
                        refine g_sld C S dL_law_706 g_92 ?_
                        refine g_aload_n C dL_law_707 0 rfl rfl ?_
                        refine g_iload C dL_law_708 5 rfl ?_
                        refine g_iconst (v := (2 : Int32)) C dL_law_710 (by decide) ?_
                        refine g_iadd C dL_law_711 ?_
                        obtain ⟨g_93, h⟩ := gd_some h
                        refine g_sld C S dL_law_712 g_93 ?_
                        refine g_aload_n C dL_law_713 3 rfl rfl ?_
                        obtain ⟨r_94, m_94, hk_94, h⟩ := b2_some h
                        refine g_wI (As := [.ref (oa (gw Γ) 0), .int (xs (v5 + (1 : Int32)).toNatClampNeg), .int (xs (v5 + (2 : Int32)).toNatClampNeg), .ref (oa (gw Γ) 108)]) (mc' := 3) C dL_law_714 mf_L_assign k_1025 ⟨by decide, by decide⟩ rfl rfl (Nat.le_of_ble_eq_true rfl) (by omega) (c_L_assign N (gl Γ) C.2.2.2.2 (gw Γ) 0 (xs (v5 + (1 : Int32)).toNatClampNeg) (xs (v5 + (2 : Int32)).toNatClampNeg) 108 m _ hk_94) ?_
                        refine g_istore (lv' := [(6, .int r_94), (0, .ref b), (1, .ref (oa (gw Γ) 0)), (2, .ref (oa (gw Γ) 95)), (3, .ref (oa (gw Γ) 108)), (4, .ref (oa (gw Γ) 109)), (5, .int v5)]) C dL_law_717 (by decide) rfl ?_
                        refine g_aload_n C dL_law_719 3 rfl rfl ?_
                        refine g_aload_n C dL_law_720 1 rfl rfl ?_
                        refine g_iload C dL_law_721 6 rfl ?_
                        refine g_iconst (v := (1 : Int32)) C dL_law_723 (by decide) ?_
                        refine g_iadd C dL_law_724 ?_
                        refine g_sld C S dL_law_725 g_92 ?_
                        refine g_aload_n C dL_law_726 1 rfl rfl ?_
                        refine g_iload C dL_law_727 6 rfl ?_
                        refine g_iconst (v := (2 : Int32)) C dL_law_729 (by decide) ?_
                        refine g_iadd C dL_law_730 ?_
                        refine g_sld C S dL_law_731 g_93 ?_
                        obtain ⟨g_95, h⟩ := gd_some h
                        obtain ⟨r_96, m_96, hk_96, h⟩ := b2_some h
                        refine g_vI (As := [.int (xs (v5 + (1 : Int32)).toNatClampNeg), .int (xs (v5 + (2 : Int32)).toNatClampNeg)]) C dL_law_732 mf_X10_assign k_1026 rfl (by decide) ⟨by decide, by decide⟩ rfl rfl (Nat.le_of_ble_eq_true rfl) (by omega) g_95 (c_X10_assign N (gl Γ) C.2.2.2.2 (gw Γ) 95 (xs (v5 + (1 : Int32)).toNatClampNeg) (xs (v5 + (2 : Int32)).toNatClampNeg) m_94 _ hk_96) ?_
                        refine g_istore (lv' := [(7, .int r_96), (6, .int r_94), (0, .ref b), (1, .ref (oa (gw Γ) 0)), (2, .ref (oa (gw Γ) 95)), (3, .ref (oa (gw Γ) 108)), (4, .ref (oa (gw Γ) 109)), (5, .int v5)]) C dL_law_735 (by decide) rfl ?_
                        refine g_aload_n C dL_law_737 4 rfl rfl ?_
                        obtain ⟨r_97, m_97, hk_97, h⟩ := b2_some h
                        refine g_vI (As := []) C dL_law_738 mf_X10_thrown k_975 rfl (by decide) ⟨by decide, by decide⟩ rfl rfl (Nat.le_of_ble_eq_true rfl) (by omega) g_95 (c_X10_thrown N (gl Γ) C.2.2.2.2 (gw Γ) 95 m_96 _ hk_97) ?_
                        refine g_iload C dL_law_741 1 rfl ?_
                        refine g_icmp_eq (tgt := 748) C dL_law_743 (by decide) (fun c_101 => ?_) (fun c_101 => ?_)
                        · replace h := it_t c_101 h
                          refine g_iload C dL_law_748 1 rfl ?_
                          refine g_if_ne (tgt := 765) C dL_law_750 (by decide) (fun c_100 => ?_) (fun c_100 => ?_)
                          · replace h := it_f c_100 h
                            refine g_goto (tgt := 2281) C dL_law_765 (by decide) ?_
                            refine g_iinc (q := 7) (v := v5 + (6 : Int32)) (lv' := [(5, .int (v5 + (6 : Int32))), (7, .int r_96), (6, .int r_94), (0, .ref b), (1, .ref (oa (gw Γ) 0)), (2, .ref (oa (gw Γ) 95)), (3, .ref (oa (gw Γ) 108)), (4, .ref (oa (gw Γ) 109))]) C dL_law_2281 rfl rfl (by decide) rfl ?_
                            refine g_goto (tgt := 28) C dL_law_2284 (by decide) ?_
                            refine g_sub [3, 4, 5, 6, 7, 0] rfl ?_
                            exact hrec (v5 + (6 : Int32)) m_97 _ (by omega) h
                          · replace h := it_t c_100 h
                            refine g_aload_n C dL_law_753 5 rfl rfl ?_
                            refine g_iconst (v := (0 : Int32)) C dL_law_754 (by decide) ?_
                            obtain ⟨g_98, h⟩ := gd_some h
                            refine g_lald C dL_law_755 g_98 ?_
                            refine g_iload C dL_law_756 0 rfl ?_
                            refine g_i2l C dL_law_758 ?_
                            refine g_lcmp C dL_law_759 ?_
                            refine g_if_eq (tgt := 765) C dL_law_760 (by decide) (fun c_99 => ?_) (fun c_99 => ?_)
                            · replace h := it_t c_99 h
                              refine g_goto (tgt := 2281) C dL_law_765 (by decide) ?_
                              refine g_iinc (q := 7) (v := v5 + (6 : Int32)) (lv' := [(5, .int (v5 + (6 : Int32))), (7, .int r_96), (6, .int r_94), (0, .ref b), (1, .ref (oa (gw Γ) 0)), (2, .ref (oa (gw Γ) 95)), (3, .ref (oa (gw Γ) 108)), (4, .ref (oa (gw Γ) 109))]) C dL_law_2281 rfl rfl (by decide) rfl ?_
                              refine g_goto (tgt := 28) C dL_law_2284 (by decide) ?_
                              refine g_sub [3, 4, 5, 6, 7, 0] rfl ?_
                              exact hrec (v5 + (6 : Int32)) m_97 _ (by omega) h
                            · replace h := it_f c_99 h
                              cases h
                        · replace h := it_f c_101 h
                          cases h
                      · replace h := it_f c_102 h
                        by_cases c_113 : ((xs v5.toNatClampNeg) &&& (63 : Int32)) = (10 : Int32)
                        · replace h := it_t c_113 h
                          refine g_tin (tgt := 768) (off := 723) C dL_law_45 (by rw [c_113]; decide) (by rw [c_113]; decide) (by rw [c_113]; rfl) (by decide) ?_
                          refine g_aload_n C dL_law_768 1 rfl rfl ?_
                          refine g_aload_n C dL_law_769 0 rfl rfl ?_
                          refine g_iload C dL_law_770 5 rfl ?_
                          refine g_iconst (v := (1 : Int32)) C dL_law_772 (by decide) ?_
                          refine g_iadd C dL_law_773 ?_
                          obtain ⟨g_103, h⟩ := gd_some h
                          refine g_sld C S dL_law_774 g_103 ?_
                          refine g_aload_n C dL_law_775 0 rfl rfl ?_
                          refine g_iload C dL_law_776 5 rfl ?_
                          refine g_iconst (v := (2 : Int32)) C dL_law_778 (by decide) ?_
                          refine g_iadd C dL_law_779 ?_
                          obtain ⟨g_104, h⟩ := gd_some h
                          refine g_sld C S dL_law_780 g_104 ?_
                          refine g_aload_n C dL_law_781 3 rfl rfl ?_
                          obtain ⟨r_105, m_105, hk_105, h⟩ := b2_some h
                          refine g_wI (As := [.ref (oa (gw Γ) 0), .int (xs (v5 + (1 : Int32)).toNatClampNeg), .int (xs (v5 + (2 : Int32)).toNatClampNeg), .ref (oa (gw Γ) 108)]) (mc' := 3) C dL_law_782 mf_L_unassign k_1030 ⟨by decide, by decide⟩ rfl rfl (Nat.le_of_ble_eq_true rfl) (by omega) (c_L_unassign N (gl Γ) C.2.2.2.2 (gw Γ) 0 (xs (v5 + (1 : Int32)).toNatClampNeg) (xs (v5 + (2 : Int32)).toNatClampNeg) 108 m _ hk_105) ?_
                          refine g_istore (lv' := [(6, .int r_105), (0, .ref b), (1, .ref (oa (gw Γ) 0)), (2, .ref (oa (gw Γ) 95)), (3, .ref (oa (gw Γ) 108)), (4, .ref (oa (gw Γ) 109)), (5, .int v5)]) C dL_law_785 (by decide) rfl ?_
                          refine g_aload_n C dL_law_787 3 rfl rfl ?_
                          refine g_aload_n C dL_law_788 1 rfl rfl ?_
                          refine g_iload C dL_law_789 6 rfl ?_
                          refine g_iconst (v := (1 : Int32)) C dL_law_791 (by decide) ?_
                          refine g_iadd C dL_law_792 ?_
                          refine g_sld C S dL_law_793 g_103 ?_
                          refine g_aload_n C dL_law_794 1 rfl rfl ?_
                          refine g_iload C dL_law_795 6 rfl ?_
                          refine g_iconst (v := (2 : Int32)) C dL_law_797 (by decide) ?_
                          refine g_iadd C dL_law_798 ?_
                          refine g_sld C S dL_law_799 g_104 ?_
                          obtain ⟨g_106, h⟩ := gd_some h
                          obtain ⟨r_107, m_107, hk_107, h⟩ := b2_some h
                          refine g_vI (As := [.int (xs (v5 + (1 : Int32)).toNatClampNeg), .int (xs (v5 + (2 : Int32)).toNatClampNeg)]) C dL_law_800 mf_X10_unassign k_1031 rfl (by decide) ⟨by decide, by decide⟩ rfl rfl (Nat.le_of_ble_eq_true rfl) (by omega) g_106 (c_X10_unassign N (gl Γ) C.2.2.2.2 (gw Γ) 95 (xs (v5 + (1 : Int32)).toNatClampNeg) (xs (v5 + (2 : Int32)).toNatClampNeg) m_105 _ hk_107) ?_
                          refine g_istore (lv' := [(7, .int r_107), (6, .int r_105), (0, .ref b), (1, .ref (oa (gw Γ) 0)), (2, .ref (oa (gw Γ) 95)), (3, .ref (oa (gw Γ) 108)), (4, .ref (oa (gw Γ) 109)), (5, .int v5)]) C dL_law_803 (by decide) rfl ?_
                          refine g_aload_n C dL_law_805 4 rfl rfl ?_
                          obtain ⟨r_108, m_108, hk_108, h⟩ := b2_some h
                          refine g_vI (As := []) C dL_law_806 mf_X10_thrown k_975 rfl (by decide) ⟨by decide, by decide⟩ rfl rfl (Nat.le_of_ble_eq_true rfl) (by omega) g_106 (c_X10_thrown N (gl Γ) C.2.2.2.2 (gw Γ) 95 m_107 _ hk_108) ?_
                          refine g_iload C dL_law_809 1 rfl ?_
                          refine g_icmp_eq (tgt := 816) C dL_law_811 (by decide) (fun c_112 => ?_) (fun c_112 => ?_)
                          · replace h := it_t c_112 h
                            refine g_iload C dL_law_816 1 rfl ?_
                            refine g_if_ne (tgt := 833) C dL_law_818 (by decide) (fun c_111 => ?_) (fun c_111 => ?_)
                            · replace h := it_f c_111 h
                              refine g_goto (tgt := 2281) C dL_law_833 (by decide) ?_
                              refine g_iinc (q := 7) (v := v5 + (6 : Int32)) (lv' := [(5, .int (v5 + (6 : Int32))), (7, .int r_107), (6, .int r_105), (0, .ref b), (1, .ref (oa (gw Γ) 0)), (2, .ref (oa (gw Γ) 95)), (3, .ref (oa (gw Γ) 108)), (4, .ref (oa (gw Γ) 109))]) C dL_law_2281 rfl rfl (by decide) rfl ?_
                              refine g_goto (tgt := 28) C dL_law_2284 (by decide) ?_
                              refine g_sub [3, 4, 5, 6, 7, 0] rfl ?_
                              exact hrec (v5 + (6 : Int32)) m_108 _ (by omega) h
                            · replace h := it_t c_111 h
                              refine g_aload_n C dL_law_821 5 rfl rfl ?_
                              refine g_iconst (v := (0 : Int32)) C dL_law_822 (by decide) ?_
                              obtain ⟨g_109, h⟩ := gd_some h
                              refine g_lald C dL_law_823 g_109 ?_
                              refine g_iload C dL_law_824 0 rfl ?_
                              refine g_i2l C dL_law_826 ?_
                              refine g_lcmp C dL_law_827 ?_
                              refine g_if_eq (tgt := 833) C dL_law_828 (by decide) (fun c_110 => ?_) (fun c_110 => ?_)
                              · replace h := it_t c_110 h
                                refine g_goto (tgt := 2281) C dL_law_833 (by decide) ?_
                                refine g_iinc (q := 7) (v := v5 + (6 : Int32)) (lv' := [(5, .int (v5 + (6 : Int32))), (7, .int r_107), (6, .int r_105), (0, .ref b), (1, .ref (oa (gw Γ) 0)), (2, .ref (oa (gw Γ) 95)), (3, .ref (oa (gw Γ) 108)), (4, .ref (oa (gw Γ) 109))]) C dL_law_2281 rfl rfl (by decide) rfl ?_
                                refine g_goto (tgt := 28) C dL_law_2284 (by decide) ?_
                                refine g_sub [3, 4, 5, 6, 7, 0] rfl ?_
                                exact hrec (v5 + (6 : Int32)) m_108 _ (by omega) h
                              · replace h := it_f c_110 h
                                cases h
                          · replace h := it_f c_112 h
                            cases h
                        · replace h := it_f c_113 h
                          by_cases c_123 : ((xs v5.toNatClampNeg) &&& (63 : Int32)) = (11 : Int32)
                          · replace h := it_t c_123 h
                            refine g_tin (tgt := 836) (off := 791) C dL_law_45 (by rw [c_123]; decide) (by rw [c_123]; decide) (by rw [c_123]; rfl) (by decide) ?_
                            refine g_aload_n C dL_law_836 1 rfl rfl ?_
                            refine g_aload_n C dL_law_837 0 rfl rfl ?_
                            refine g_iload C dL_law_838 5 rfl ?_
                            refine g_iconst (v := (1 : Int32)) C dL_law_840 (by decide) ?_
                            refine g_iadd C dL_law_841 ?_
                            obtain ⟨g_114, h⟩ := gd_some h
                            refine g_sld C S dL_law_842 g_114 ?_
                            refine g_aload_n C dL_law_843 3 rfl rfl ?_
                            obtain ⟨r_115, m_115, hk_115, h⟩ := b2_some h
                            refine g_wI (As := [.ref (oa (gw Γ) 0), .int (xs (v5 + (1 : Int32)).toNatClampNeg), .ref (oa (gw Γ) 108)]) (mc' := 1) C dL_law_844 mf_L_assignAll k_1035 ⟨by decide, by decide⟩ rfl rfl (Nat.le_of_ble_eq_true rfl) (by omega) (c_L_assignAll N (gl Γ) C.2.2.2.2 (gw Γ) 0 (xs (v5 + (1 : Int32)).toNatClampNeg) 108 m _ hk_115) ?_
                            refine g_istore (lv' := [(6, .int r_115), (0, .ref b), (1, .ref (oa (gw Γ) 0)), (2, .ref (oa (gw Γ) 95)), (3, .ref (oa (gw Γ) 108)), (4, .ref (oa (gw Γ) 109)), (5, .int v5)]) C dL_law_847 (by decide) rfl ?_
                            refine g_aload_n C dL_law_849 3 rfl rfl ?_
                            refine g_aload_n C dL_law_850 1 rfl rfl ?_
                            refine g_iload C dL_law_851 6 rfl ?_
                            refine g_iconst (v := (1 : Int32)) C dL_law_853 (by decide) ?_
                            refine g_iadd C dL_law_854 ?_
                            refine g_sld C S dL_law_855 g_114 ?_
                            obtain ⟨g_116, h⟩ := gd_some h
                            obtain ⟨r_117, m_117, hk_117, h⟩ := b2_some h
                            refine g_vI (As := [.int (xs (v5 + (1 : Int32)).toNatClampNeg)]) C dL_law_856 mf_X10_assignAll k_1036 rfl (by decide) ⟨by decide, by decide⟩ rfl rfl (Nat.le_of_ble_eq_true rfl) (by omega) g_116 (c_X10_assignAll N (gl Γ) C.2.2.2.2 (gw Γ) 95 (xs (v5 + (1 : Int32)).toNatClampNeg) m_115 _ hk_117) ?_
                            refine g_istore (lv' := [(7, .int r_117), (6, .int r_115), (0, .ref b), (1, .ref (oa (gw Γ) 0)), (2, .ref (oa (gw Γ) 95)), (3, .ref (oa (gw Γ) 108)), (4, .ref (oa (gw Γ) 109)), (5, .int v5)]) C dL_law_859 (by decide) rfl ?_
                            refine g_aload_n C dL_law_861 4 rfl rfl ?_
                            obtain ⟨r_118, m_118, hk_118, h⟩ := b2_some h
                            refine g_vI (As := []) C dL_law_862 mf_X10_thrown k_975 rfl (by decide) ⟨by decide, by decide⟩ rfl rfl (Nat.le_of_ble_eq_true rfl) (by omega) g_116 (c_X10_thrown N (gl Γ) C.2.2.2.2 (gw Γ) 95 m_117 _ hk_118) ?_
                            refine g_iload C dL_law_865 1 rfl ?_
                            refine g_icmp_eq (tgt := 872) C dL_law_867 (by decide) (fun c_122 => ?_) (fun c_122 => ?_)
                            · replace h := it_t c_122 h
                              refine g_iload C dL_law_872 1 rfl ?_
                              refine g_if_ne (tgt := 889) C dL_law_874 (by decide) (fun c_121 => ?_) (fun c_121 => ?_)
                              · replace h := it_f c_121 h
                                refine g_goto (tgt := 2281) C dL_law_889 (by decide) ?_
                                refine g_iinc (q := 7) (v := v5 + (6 : Int32)) (lv' := [(5, .int (v5 + (6 : Int32))), (7, .int r_117), (6, .int r_115), (0, .ref b), (1, .ref (oa (gw Γ) 0)), (2, .ref (oa (gw Γ) 95)), (3, .ref (oa (gw Γ) 108)), (4, .ref (oa (gw Γ) 109))]) C dL_law_2281 rfl rfl (by decide) rfl ?_
                                refine g_goto (tgt := 28) C dL_law_2284 (by decide) ?_
                                refine g_sub [3, 4, 5, 6, 7, 0] rfl ?_
                                exact hrec (v5 + (6 : Int32)) m_118 _ (by omega) h
                              · replace h := it_t c_121 h
                                refine g_aload_n C dL_law_877 5 rfl rfl ?_
                                refine g_iconst (v := (0 : Int32)) C dL_law_878 (by decide) ?_
                                obtain ⟨g_119, h⟩ := gd_some h
                                refine g_lald C dL_law_879 g_119 ?_
                                refine g_iload C dL_law_880 0 rfl ?_
                                refine g_i2l C dL_law_882 ?_
                                refine g_lcmp C dL_law_883 ?_
                                refine g_if_eq (tgt := 889) C dL_law_884 (by decide) (fun c_120 => ?_) (fun c_120 => ?_)
                                · replace h := it_t c_120 h
                                  refine g_goto (tgt := 2281) C dL_law_889 (by decide) ?_
                                  refine g_iinc (q := 7) (v := v5 + (6 : Int32)) (lv' := [(5, .int (v5 + (6 : Int32))), (7, .int r_117), (6, .int r_115), (0, .ref b), (1, .ref (oa (gw Γ) 0)), (2, .ref (oa (gw Γ) 95)), (3, .ref (oa (gw Γ) 108)), (4, .ref (oa (gw Γ) 109))]) C dL_law_2281 rfl rfl (by decide) rfl ?_
                                  refine g_goto (tgt := 28) C dL_law_2284 (by decide) ?_
                                  refine g_sub [3, 4, 5, 6, 7, 0] rfl ?_
                                  exact hrec (v5 + (6 : Int32)) m_118 _ (by omega) h
                                · replace h := it_f c_120 h
                                  cases h
                            · replace h := it_f c_122 h
                              cases h
                          · replace h := it_f c_123 h
                            by_cases c_134 : ((xs v5.toNatClampNeg) &&& (63 : Int32)) = (12 : Int32)
                            · replace h := it_t c_134 h
                              refine g_tin (tgt := 892) (off := 847) C dL_law_45 (by rw [c_134]; decide) (by rw [c_134]; decide) (by rw [c_134]; rfl) (by decide) ?_
                              refine g_aload_n C dL_law_892 1 rfl rfl ?_
                              refine g_aload_n C dL_law_893 0 rfl rfl ?_
                              refine g_iload C dL_law_894 5 rfl ?_
                              refine g_iconst (v := (1 : Int32)) C dL_law_896 (by decide) ?_
                              refine g_iadd C dL_law_897 ?_
                              obtain ⟨g_124, h⟩ := gd_some h
                              refine g_sld C S dL_law_898 g_124 ?_
                              refine g_aload_n C dL_law_899 0 rfl rfl ?_
                              refine g_iload C dL_law_900 5 rfl ?_
                              refine g_iconst (v := (2 : Int32)) C dL_law_902 (by decide) ?_
                              refine g_iadd C dL_law_903 ?_
                              obtain ⟨g_125, h⟩ := gd_some h
                              refine g_sld C S dL_law_904 g_125 ?_
                              refine g_aload_n C dL_law_905 3 rfl rfl ?_
                              obtain ⟨r_126, m_126, hk_126, h⟩ := b2_some h
                              refine g_wI (As := [.ref (oa (gw Γ) 0), .int (xs (v5 + (1 : Int32)).toNatClampNeg), .int (xs (v5 + (2 : Int32)).toNatClampNeg), .ref (oa (gw Γ) 108)]) (mc' := 2) C dL_law_906 mf_L_reviewerOf k_1040 ⟨by decide, by decide⟩ rfl rfl (Nat.le_of_ble_eq_true rfl) (by omega) (c_L_reviewerOf N (gl Γ) C.2.2.2.2 (gw Γ) 0 (xs (v5 + (1 : Int32)).toNatClampNeg) (xs (v5 + (2 : Int32)).toNatClampNeg) 108 m _ hk_126) ?_
                              refine g_istore (lv' := [(6, .int r_126), (0, .ref b), (1, .ref (oa (gw Γ) 0)), (2, .ref (oa (gw Γ) 95)), (3, .ref (oa (gw Γ) 108)), (4, .ref (oa (gw Γ) 109)), (5, .int v5)]) C dL_law_909 (by decide) rfl ?_
                              refine g_aload_n C dL_law_911 3 rfl rfl ?_
                              refine g_aload_n C dL_law_912 1 rfl rfl ?_
                              refine g_iload C dL_law_913 6 rfl ?_
                              refine g_iconst (v := (1 : Int32)) C dL_law_915 (by decide) ?_
                              refine g_iadd C dL_law_916 ?_
                              refine g_sld C S dL_law_917 g_124 ?_
                              refine g_aload_n C dL_law_918 1 rfl rfl ?_
                              refine g_iload C dL_law_919 6 rfl ?_
                              refine g_iconst (v := (2 : Int32)) C dL_law_921 (by decide) ?_
                              refine g_iadd C dL_law_922 ?_
                              refine g_sld C S dL_law_923 g_125 ?_
                              obtain ⟨g_127, h⟩ := gd_some h
                              obtain ⟨r_128, m_128, hk_128, h⟩ := b2_some h
                              refine g_vI (As := [.int (xs (v5 + (1 : Int32)).toNatClampNeg), .int (xs (v5 + (2 : Int32)).toNatClampNeg)]) C dL_law_924 mf_X10_reviewerOf k_1041 rfl (by decide) ⟨by decide, by decide⟩ rfl rfl (Nat.le_of_ble_eq_true rfl) (by omega) g_127 (c_X10_reviewerOf N (gl Γ) C.2.2.2.2 (gw Γ) 95 (xs (v5 + (1 : Int32)).toNatClampNeg) (xs (v5 + (2 : Int32)).toNatClampNeg) m_126 _ hk_128) ?_
                              refine g_istore (lv' := [(7, .int r_128), (6, .int r_126), (0, .ref b), (1, .ref (oa (gw Γ) 0)), (2, .ref (oa (gw Γ) 95)), (3, .ref (oa (gw Γ) 108)), (4, .ref (oa (gw Γ) 109)), (5, .int v5)]) C dL_law_927 (by decide) rfl ?_
                              refine g_aload_n C dL_law_929 4 rfl rfl ?_
                              obtain ⟨r_129, m_129, hk_129, h⟩ := b2_some h
                              refine g_vI (As := []) C dL_law_930 mf_X10_thrown k_975 rfl (by decide) ⟨by decide, by decide⟩ rfl rfl (Nat.le_of_ble_eq_true rfl) (by omega) g_127 (c_X10_thrown N (gl Γ) C.2.2.2.2 (gw Γ) 95 m_128 _ hk_129) ?_
                              refine g_iload C dL_law_933 1 rfl ?_
                              refine g_icmp_eq (tgt := 940) C dL_law_935 (by decide) (fun c_133 => ?_) (fun c_133 => ?_)
                              · replace h := it_t c_133 h
                                refine g_iload C dL_law_940 1 rfl ?_
                                refine g_if_ne (tgt := 957) C dL_law_942 (by decide) (fun c_132 => ?_) (fun c_132 => ?_)
                                · replace h := it_f c_132 h
                                  refine g_goto (tgt := 2281) C dL_law_957 (by decide) ?_
                                  refine g_iinc (q := 7) (v := v5 + (6 : Int32)) (lv' := [(5, .int (v5 + (6 : Int32))), (7, .int r_128), (6, .int r_126), (0, .ref b), (1, .ref (oa (gw Γ) 0)), (2, .ref (oa (gw Γ) 95)), (3, .ref (oa (gw Γ) 108)), (4, .ref (oa (gw Γ) 109))]) C dL_law_2281 rfl rfl (by decide) rfl ?_
                                  refine g_goto (tgt := 28) C dL_law_2284 (by decide) ?_
                                  refine g_sub [3, 4, 5, 6, 7, 0] rfl ?_
                                  exact hrec (v5 + (6 : Int32)) m_129 _ (by omega) h
                                · replace h := it_t c_132 h
                                  refine g_aload_n C dL_law_945 5 rfl rfl ?_
                                  refine g_iconst (v := (0 : Int32)) C dL_law_946 (by decide) ?_
                                  obtain ⟨g_130, h⟩ := gd_some h
                                  refine g_lald C dL_law_947 g_130 ?_
                                  refine g_iload C dL_law_948 0 rfl ?_
                                  refine g_i2l C dL_law_950 ?_
                                  refine g_lcmp C dL_law_951 ?_
                                  refine g_if_eq (tgt := 957) C dL_law_952 (by decide) (fun c_131 => ?_) (fun c_131 => ?_)
                                  · replace h := it_t c_131 h
                                    refine g_goto (tgt := 2281) C dL_law_957 (by decide) ?_
                                    refine g_iinc (q := 7) (v := v5 + (6 : Int32)) (lv' := [(5, .int (v5 + (6 : Int32))), (7, .int r_128), (6, .int r_126), (0, .ref b), (1, .ref (oa (gw Γ) 0)), (2, .ref (oa (gw Γ) 95)), (3, .ref (oa (gw Γ) 108)), (4, .ref (oa (gw Γ) 109))]) C dL_law_2281 rfl rfl (by decide) rfl ?_
                                    refine g_goto (tgt := 28) C dL_law_2284 (by decide) ?_
                                    refine g_sub [3, 4, 5, 6, 7, 0] rfl ?_
                                    exact hrec (v5 + (6 : Int32)) m_129 _ (by omega) h
                                  · replace h := it_f c_131 h
                                    cases h
                              · replace h := it_f c_133 h
                                cases h
                            · replace h := it_f c_134 h
                              by_cases c_144 : ((xs v5.toNatClampNeg) &&& (63 : Int32)) = (13 : Int32)
                              · replace h := it_t c_144 h
                                refine g_tin (tgt := 960) (off := 915) C dL_law_45 (by rw [c_144]; decide) (by rw [c_144]; decide) (by rw [c_144]; rfl) (by decide) ?_
                                refine g_aload_n C dL_law_960 1 rfl rfl ?_
                                refine g_aload_n C dL_law_961 0 rfl rfl ?_
                                refine g_iload C dL_law_962 5 rfl ?_
                                refine g_iconst (v := (1 : Int32)) C dL_law_964 (by decide) ?_
                                refine g_iadd C dL_law_965 ?_
                                obtain ⟨g_135, h⟩ := gd_some h
                                refine g_sld C S dL_law_966 g_135 ?_
                                refine g_aload_n C dL_law_967 3 rfl rfl ?_
                                obtain ⟨r_136, m_136, hk_136, h⟩ := b2_some h
                                refine g_wI (As := [.ref (oa (gw Γ) 0), .int (xs (v5 + (1 : Int32)).toNatClampNeg), .ref (oa (gw Γ) 108)]) (mc' := 1) C dL_law_968 mf_L_loadOf k_1045 ⟨by decide, by decide⟩ rfl rfl (Nat.le_of_ble_eq_true rfl) (by omega) (c_L_loadOf N (gl Γ) C.2.2.2.2 (gw Γ) 0 (xs (v5 + (1 : Int32)).toNatClampNeg) 108 m _ hk_136) ?_
                                refine g_istore (lv' := [(6, .int r_136), (0, .ref b), (1, .ref (oa (gw Γ) 0)), (2, .ref (oa (gw Γ) 95)), (3, .ref (oa (gw Γ) 108)), (4, .ref (oa (gw Γ) 109)), (5, .int v5)]) C dL_law_971 (by decide) rfl ?_
                                refine g_aload_n C dL_law_973 3 rfl rfl ?_
                                refine g_aload_n C dL_law_974 1 rfl rfl ?_
                                refine g_iload C dL_law_975 6 rfl ?_
                                refine g_iconst (v := (1 : Int32)) C dL_law_977 (by decide) ?_
                                refine g_iadd C dL_law_978 ?_
                                refine g_sld C S dL_law_979 g_135 ?_
                                obtain ⟨g_137, h⟩ := gd_some h
                                obtain ⟨r_138, m_138, hk_138, h⟩ := b2_some h
                                refine g_vI (As := [.int (xs (v5 + (1 : Int32)).toNatClampNeg)]) C dL_law_980 mf_X10_loadOf k_1046 rfl (by decide) ⟨by decide, by decide⟩ rfl rfl (Nat.le_of_ble_eq_true rfl) (by omega) g_137 (c_X10_loadOf N (gl Γ) C.2.2.2.2 (gw Γ) 95 (xs (v5 + (1 : Int32)).toNatClampNeg) m_136 _ hk_138) ?_
                                refine g_istore (lv' := [(7, .int r_138), (6, .int r_136), (0, .ref b), (1, .ref (oa (gw Γ) 0)), (2, .ref (oa (gw Γ) 95)), (3, .ref (oa (gw Γ) 108)), (4, .ref (oa (gw Γ) 109)), (5, .int v5)]) C dL_law_983 (by decide) rfl ?_
                                refine g_aload_n C dL_law_985 4 rfl rfl ?_
                                obtain ⟨r_139, m_139, hk_139, h⟩ := b2_some h
                                refine g_vI (As := []) C dL_law_986 mf_X10_thrown k_975 rfl (by decide) ⟨by decide, by decide⟩ rfl rfl (Nat.le_of_ble_eq_true rfl) (by omega) g_137 (c_X10_thrown N (gl Γ) C.2.2.2.2 (gw Γ) 95 m_138 _ hk_139) ?_
                                refine g_iload C dL_law_989 1 rfl ?_
                                refine g_icmp_eq (tgt := 996) C dL_law_991 (by decide) (fun c_143 => ?_) (fun c_143 => ?_)
                                · replace h := it_t c_143 h
                                  refine g_iload C dL_law_996 1 rfl ?_
                                  refine g_if_ne (tgt := 1013) C dL_law_998 (by decide) (fun c_142 => ?_) (fun c_142 => ?_)
                                  · replace h := it_f c_142 h
                                    refine g_goto (tgt := 2281) C dL_law_1013 (by decide) ?_
                                    refine g_iinc (q := 7) (v := v5 + (6 : Int32)) (lv' := [(5, .int (v5 + (6 : Int32))), (7, .int r_138), (6, .int r_136), (0, .ref b), (1, .ref (oa (gw Γ) 0)), (2, .ref (oa (gw Γ) 95)), (3, .ref (oa (gw Γ) 108)), (4, .ref (oa (gw Γ) 109))]) C dL_law_2281 rfl rfl (by decide) rfl ?_
                                    refine g_goto (tgt := 28) C dL_law_2284 (by decide) ?_
                                    refine g_sub [3, 4, 5, 6, 7, 0] rfl ?_
                                    exact hrec (v5 + (6 : Int32)) m_139 _ (by omega) h
                                  · replace h := it_t c_142 h
                                    refine g_aload_n C dL_law_1001 5 rfl rfl ?_
                                    refine g_iconst (v := (0 : Int32)) C dL_law_1002 (by decide) ?_
                                    obtain ⟨g_140, h⟩ := gd_some h
                                    refine g_lald C dL_law_1003 g_140 ?_
                                    refine g_iload C dL_law_1004 0 rfl ?_
                                    refine g_i2l C dL_law_1006 ?_
                                    refine g_lcmp C dL_law_1007 ?_
                                    refine g_if_eq (tgt := 1013) C dL_law_1008 (by decide) (fun c_141 => ?_) (fun c_141 => ?_)
                                    · replace h := it_t c_141 h
                                      refine g_goto (tgt := 2281) C dL_law_1013 (by decide) ?_
                                      refine g_iinc (q := 7) (v := v5 + (6 : Int32)) (lv' := [(5, .int (v5 + (6 : Int32))), (7, .int r_138), (6, .int r_136), (0, .ref b), (1, .ref (oa (gw Γ) 0)), (2, .ref (oa (gw Γ) 95)), (3, .ref (oa (gw Γ) 108)), (4, .ref (oa (gw Γ) 109))]) C dL_law_2281 rfl rfl (by decide) rfl ?_
                                      refine g_goto (tgt := 28) C dL_law_2284 (by decide) ?_
                                      refine g_sub [3, 4, 5, 6, 7, 0] rfl ?_
                                      exact hrec (v5 + (6 : Int32)) m_139 _ (by omega) h
                                    · replace h := it_f c_141 h
                                      cases h
                                · replace h := it_f c_143 h
                                  cases h
                              · replace h := it_f c_144 h
                                by_cases c_154 : ((xs v5.toNatClampNeg) &&& (63 : Int32)) = (14 : Int32)
                                · replace h := it_t c_154 h
                                  refine g_tin (tgt := 1016) (off := 971) C dL_law_45 (by rw [c_154]; decide) (by rw [c_154]; decide) (by rw [c_154]; rfl) (by decide) ?_
                                  refine g_aload_n C dL_law_1016 1 rfl rfl ?_
                                  refine g_aload_n C dL_law_1017 0 rfl rfl ?_
                                  refine g_iload C dL_law_1018 5 rfl ?_
                                  refine g_iconst (v := (1 : Int32)) C dL_law_1020 (by decide) ?_
                                  refine g_iadd C dL_law_1021 ?_
                                  obtain ⟨g_145, h⟩ := gd_some h
                                  refine g_sld C S dL_law_1022 g_145 ?_
                                  refine g_aload_n C dL_law_1023 3 rfl rfl ?_
                                  obtain ⟨r_146, m_146, hk_146, h⟩ := b2_some h
                                  refine g_wI (As := [.ref (oa (gw Γ) 0), .int (xs (v5 + (1 : Int32)).toNatClampNeg), .ref (oa (gw Γ) 108)]) (mc' := 1) C dL_law_1024 mf_L_matchSum k_1050 ⟨by decide, by decide⟩ rfl rfl (Nat.le_of_ble_eq_true rfl) (by omega) (c_L_matchSum N (gl Γ) C.2.2.2.2 (gw Γ) 0 (xs (v5 + (1 : Int32)).toNatClampNeg) 108 m _ hk_146) ?_
                                  refine g_istore (lv' := [(6, .int r_146), (0, .ref b), (1, .ref (oa (gw Γ) 0)), (2, .ref (oa (gw Γ) 95)), (3, .ref (oa (gw Γ) 108)), (4, .ref (oa (gw Γ) 109)), (5, .int v5)]) C dL_law_1027 (by decide) rfl ?_
                                  refine g_aload_n C dL_law_1029 3 rfl rfl ?_
                                  refine g_aload_n C dL_law_1030 1 rfl rfl ?_
                                  refine g_iload C dL_law_1031 6 rfl ?_
                                  refine g_iconst (v := (1 : Int32)) C dL_law_1033 (by decide) ?_
                                  refine g_iadd C dL_law_1034 ?_
                                  refine g_sld C S dL_law_1035 g_145 ?_
                                  obtain ⟨g_147, h⟩ := gd_some h
                                  obtain ⟨r_148, m_148, hk_148, h⟩ := b2_some h
                                  refine g_vI (As := [.int (xs (v5 + (1 : Int32)).toNatClampNeg)]) C dL_law_1036 mf_X10_matchSum k_1051 rfl (by decide) ⟨by decide, by decide⟩ rfl rfl (Nat.le_of_ble_eq_true rfl) (by omega) g_147 (c_X10_matchSum N (gl Γ) C.2.2.2.2 (gw Γ) 95 (xs (v5 + (1 : Int32)).toNatClampNeg) m_146 _ hk_148) ?_
                                  refine g_istore (lv' := [(7, .int r_148), (6, .int r_146), (0, .ref b), (1, .ref (oa (gw Γ) 0)), (2, .ref (oa (gw Γ) 95)), (3, .ref (oa (gw Γ) 108)), (4, .ref (oa (gw Γ) 109)), (5, .int v5)]) C dL_law_1039 (by decide) rfl ?_
                                  refine g_aload_n C dL_law_1041 4 rfl rfl ?_
                                  obtain ⟨r_149, m_149, hk_149, h⟩ := b2_some h
                                  refine g_vI (As := []) C dL_law_1042 mf_X10_thrown k_975 rfl (by decide) ⟨by decide, by decide⟩ rfl rfl (Nat.le_of_ble_eq_true rfl) (by omega) g_147 (c_X10_thrown N (gl Γ) C.2.2.2.2 (gw Γ) 95 m_148 _ hk_149) ?_
                                  refine g_iload C dL_law_1045 1 rfl ?_
                                  refine g_icmp_eq (tgt := 1052) C dL_law_1047 (by decide) (fun c_153 => ?_) (fun c_153 => ?_)
                                  · replace h := it_t c_153 h
                                    refine g_iload C dL_law_1052 1 rfl ?_
                                    refine g_if_ne (tgt := 1069) C dL_law_1054 (by decide) (fun c_152 => ?_) (fun c_152 => ?_)
                                    · replace h := it_f c_152 h
                                      refine g_goto (tgt := 2281) C dL_law_1069 (by decide) ?_
                                      refine g_iinc (q := 7) (v := v5 + (6 : Int32)) (lv' := [(5, .int (v5 + (6 : Int32))), (7, .int r_148), (6, .int r_146), (0, .ref b), (1, .ref (oa (gw Γ) 0)), (2, .ref (oa (gw Γ) 95)), (3, .ref (oa (gw Γ) 108)), (4, .ref (oa (gw Γ) 109))]) C dL_law_2281 rfl rfl (by decide) rfl ?_
                                      refine g_goto (tgt := 28) C dL_law_2284 (by decide) ?_
                                      refine g_sub [3, 4, 5, 6, 7, 0] rfl ?_
                                      exact hrec (v5 + (6 : Int32)) m_149 _ (by omega) h
                                    · replace h := it_t c_152 h
                                      refine g_aload_n C dL_law_1057 5 rfl rfl ?_
                                      refine g_iconst (v := (0 : Int32)) C dL_law_1058 (by decide) ?_
                                      obtain ⟨g_150, h⟩ := gd_some h
                                      refine g_lald C dL_law_1059 g_150 ?_
                                      refine g_iload C dL_law_1060 0 rfl ?_
                                      refine g_i2l C dL_law_1062 ?_
                                      refine g_lcmp C dL_law_1063 ?_
                                      refine g_if_eq (tgt := 1069) C dL_law_1064 (by decide) (fun c_151 => ?_) (fun c_151 => ?_)
                                      · replace h := it_t c_151 h
                                        refine g_goto (tgt := 2281) C dL_law_1069 (by decide) ?_
                                        refine g_iinc (q := 7) (v := v5 + (6 : Int32)) (lv' := [(5, .int (v5 + (6 : Int32))), (7, .int r_148), (6, .int r_146), (0, .ref b), (1, .ref (oa (gw Γ) 0)), (2, .ref (oa (gw Γ) 95)), (3, .ref (oa (gw Γ) 108)), (4, .ref (oa (gw Γ) 109))]) C dL_law_2281 rfl rfl (by decide) rfl ?_
                                        refine g_goto (tgt := 28) C dL_law_2284 (by decide) ?_
                                        refine g_sub [3, 4, 5, 6, 7, 0] rfl ?_
                                        exact hrec (v5 + (6 : Int32)) m_149 _ (by omega) h
                                      · replace h := it_f c_151 h
                                        cases h
                                  · replace h := it_f c_153 h
                                    cases h
                                · replace h := it_f c_154 h
                                  by_cases c_164 : ((xs v5.toNatClampNeg) &&& (63 : Int32)) = (15 : Int32)
                                  · replace h := it_t c_164 h
                                    refine g_tin (tgt := 1072) (off := 1027) C dL_law_45 (by rw [c_164]; decide) (by rw [c_164]; decide) (by rw [c_164]; rfl) (by decide) ?_
                                    refine g_aload_n C dL_law_1072 1 rfl rfl ?_
                                    refine g_aload_n C dL_law_1073 0 rfl rfl ?_
                                    refine g_iload C dL_law_1074 5 rfl ?_
                                    refine g_iconst (v := (1 : Int32)) C dL_law_1076 (by decide) ?_
                                    refine g_iadd C dL_law_1077 ?_
                                    obtain ⟨g_155, h⟩ := gd_some h
                                    refine g_sld C S dL_law_1078 g_155 ?_
                                    refine g_aload_n C dL_law_1079 3 rfl rfl ?_
                                    obtain ⟨r_156, m_156, hk_156, h⟩ := b2_some h
                                    refine g_wI (As := [.ref (oa (gw Γ) 0), .int (xs (v5 + (1 : Int32)).toNatClampNeg), .ref (oa (gw Γ) 108)]) (mc' := 1) C dL_law_1080 mf_L_mostReviews k_1055 ⟨by decide, by decide⟩ rfl rfl (Nat.le_of_ble_eq_true rfl) (by omega) (c_L_mostReviews N (gl Γ) C.2.2.2.2 (gw Γ) 0 (xs (v5 + (1 : Int32)).toNatClampNeg) 108 m _ hk_156) ?_
                                    refine g_istore (lv' := [(6, .int r_156), (0, .ref b), (1, .ref (oa (gw Γ) 0)), (2, .ref (oa (gw Γ) 95)), (3, .ref (oa (gw Γ) 108)), (4, .ref (oa (gw Γ) 109)), (5, .int v5)]) C dL_law_1083 (by decide) rfl ?_
                                    refine g_aload_n C dL_law_1085 3 rfl rfl ?_
                                    refine g_aload_n C dL_law_1086 1 rfl rfl ?_
                                    refine g_iload C dL_law_1087 6 rfl ?_
                                    refine g_iconst (v := (1 : Int32)) C dL_law_1089 (by decide) ?_
                                    refine g_iadd C dL_law_1090 ?_
                                    refine g_sld C S dL_law_1091 g_155 ?_
                                    obtain ⟨g_157, h⟩ := gd_some h
                                    obtain ⟨r_158, m_158, hk_158, h⟩ := b2_some h
                                    refine g_vI (As := [.int (xs (v5 + (1 : Int32)).toNatClampNeg)]) C dL_law_1092 mf_X10_mostReviews k_1056 rfl (by decide) ⟨by decide, by decide⟩ rfl rfl (Nat.le_of_ble_eq_true rfl) (by omega) g_157 (c_X10_mostReviews N (gl Γ) C.2.2.2.2 (gw Γ) 95 (xs (v5 + (1 : Int32)).toNatClampNeg) m_156 _ hk_158) ?_
                                    refine g_istore (lv' := [(7, .int r_158), (6, .int r_156), (0, .ref b), (1, .ref (oa (gw Γ) 0)), (2, .ref (oa (gw Γ) 95)), (3, .ref (oa (gw Γ) 108)), (4, .ref (oa (gw Γ) 109)), (5, .int v5)]) C dL_law_1095 (by decide) rfl ?_
                                    refine g_aload_n C dL_law_1097 4 rfl rfl ?_
                                    obtain ⟨r_159, m_159, hk_159, h⟩ := b2_some h
                                    refine g_vI (As := []) C dL_law_1098 mf_X10_thrown k_975 rfl (by decide) ⟨by decide, by decide⟩ rfl rfl (Nat.le_of_ble_eq_true rfl) (by omega) g_157 (c_X10_thrown N (gl Γ) C.2.2.2.2 (gw Γ) 95 m_158 _ hk_159) ?_
                                    refine g_iload C dL_law_1101 1 rfl ?_
                                    refine g_icmp_eq (tgt := 1108) C dL_law_1103 (by decide) (fun c_163 => ?_) (fun c_163 => ?_)
                                    · replace h := it_t c_163 h
                                      refine g_iload C dL_law_1108 1 rfl ?_
                                      refine g_if_ne (tgt := 1125) C dL_law_1110 (by decide) (fun c_162 => ?_) (fun c_162 => ?_)
                                      · replace h := it_f c_162 h
                                        refine g_goto (tgt := 2281) C dL_law_1125 (by decide) ?_
                                        refine g_iinc (q := 7) (v := v5 + (6 : Int32)) (lv' := [(5, .int (v5 + (6 : Int32))), (7, .int r_158), (6, .int r_156), (0, .ref b), (1, .ref (oa (gw Γ) 0)), (2, .ref (oa (gw Γ) 95)), (3, .ref (oa (gw Γ) 108)), (4, .ref (oa (gw Γ) 109))]) C dL_law_2281 rfl rfl (by decide) rfl ?_
                                        refine g_goto (tgt := 28) C dL_law_2284 (by decide) ?_
                                        refine g_sub [3, 4, 5, 6, 7, 0] rfl ?_
                                        exact hrec (v5 + (6 : Int32)) m_159 _ (by omega) h
                                      · replace h := it_t c_162 h
                                        refine g_aload_n C dL_law_1113 5 rfl rfl ?_
                                        refine g_iconst (v := (0 : Int32)) C dL_law_1114 (by decide) ?_
                                        obtain ⟨g_160, h⟩ := gd_some h
                                        refine g_lald C dL_law_1115 g_160 ?_
                                        refine g_iload C dL_law_1116 0 rfl ?_
                                        refine g_i2l C dL_law_1118 ?_
                                        refine g_lcmp C dL_law_1119 ?_
                                        refine g_if_eq (tgt := 1125) C dL_law_1120 (by decide) (fun c_161 => ?_) (fun c_161 => ?_)
                                        · replace h := it_t c_161 h
                                          refine g_goto (tgt := 2281) C dL_law_1125 (by decide) ?_
                                          refine g_iinc (q := 7) (v := v5 + (6 : Int32)) (lv' := [(5, .int (v5 + (6 : Int32))), (7, .int r_158), (6, .int r_156), (0, .ref b), (1, .ref (oa (gw Γ) 0)), (2, .ref (oa (gw Γ) 95)), (3, .ref (oa (gw Γ) 108)), (4, .ref (oa (gw Γ) 109))]) C dL_law_2281 rfl rfl (by decide) rfl ?_
                                          refine g_goto (tgt := 28) C dL_law_2284 (by decide) ?_
                                          refine g_sub [3, 4, 5, 6, 7, 0] rfl ?_
                                          exact hrec (v5 + (6 : Int32)) m_159 _ (by omega) h
                                        · replace h := it_f c_161 h
                                          cases h
                                    · replace h := it_f c_163 h
                                      cases h
                                  · replace h := it_f c_164 h
                                    by_cases c_174 : ((xs v5.toNatClampNeg) &&& (63 : Int32)) = (16 : Int32)
                                    · replace h := it_t c_174 h
                                      refine g_tin (tgt := 1128) (off := 1083) C dL_law_45 (by rw [c_174]; decide) (by rw [c_174]; decide) (by rw [c_174]; rfl) (by decide) ?_
                                      refine g_aload_n C dL_law_1128 1 rfl rfl ?_
                                      refine g_aload_n C dL_law_1129 0 rfl rfl ?_
                                      refine g_iload C dL_law_1130 5 rfl ?_
                                      refine g_iconst (v := (1 : Int32)) C dL_law_1132 (by decide) ?_
                                      refine g_iadd C dL_law_1133 ?_
                                      obtain ⟨g_165, h⟩ := gd_some h
                                      refine g_sld C S dL_law_1134 g_165 ?_
                                      refine g_aload_n C dL_law_1135 3 rfl rfl ?_
                                      obtain ⟨r_166, m_166, hk_166, h⟩ := b2_some h
                                      refine g_wI (As := [.ref (oa (gw Γ) 0), .int (xs (v5 + (1 : Int32)).toNatClampNeg), .ref (oa (gw Γ) 108)]) (mc' := 1) C dL_law_1136 mf_L_bestMatchSum k_1060 ⟨by decide, by decide⟩ rfl rfl (Nat.le_of_ble_eq_true rfl) (by omega) (c_L_bestMatchSum N (gl Γ) C.2.2.2.2 (gw Γ) 0 (xs (v5 + (1 : Int32)).toNatClampNeg) 108 m _ hk_166) ?_
                                      refine g_istore (lv' := [(6, .int r_166), (0, .ref b), (1, .ref (oa (gw Γ) 0)), (2, .ref (oa (gw Γ) 95)), (3, .ref (oa (gw Γ) 108)), (4, .ref (oa (gw Γ) 109)), (5, .int v5)]) C dL_law_1139 (by decide) rfl ?_
                                      refine g_aload_n C dL_law_1141 3 rfl rfl ?_
                                      refine g_aload_n C dL_law_1142 1 rfl rfl ?_
                                      refine g_iload C dL_law_1143 6 rfl ?_
                                      refine g_iconst (v := (1 : Int32)) C dL_law_1145 (by decide) ?_
                                      refine g_iadd C dL_law_1146 ?_
                                      refine g_sld C S dL_law_1147 g_165 ?_
                                      obtain ⟨g_167, h⟩ := gd_some h
                                      obtain ⟨r_168, m_168, hk_168, h⟩ := b2_some h
                                      refine g_vI (As := [.int (xs (v5 + (1 : Int32)).toNatClampNeg)]) C dL_law_1148 mf_X10_bestMatchSum k_1061 rfl (by decide) ⟨by decide, by decide⟩ rfl rfl (Nat.le_of_ble_eq_true rfl) (by omega) g_167 (c_X10_bestMatchSum N (gl Γ) C.2.2.2.2 (gw Γ) 95 (xs (v5 + (1 : Int32)).toNatClampNeg) m_166 _ hk_168) ?_
                                      refine g_istore (lv' := [(7, .int r_168), (6, .int r_166), (0, .ref b), (1, .ref (oa (gw Γ) 0)), (2, .ref (oa (gw Γ) 95)), (3, .ref (oa (gw Γ) 108)), (4, .ref (oa (gw Γ) 109)), (5, .int v5)]) C dL_law_1151 (by decide) rfl ?_
                                      refine g_aload_n C dL_law_1153 4 rfl rfl ?_
                                      obtain ⟨r_169, m_169, hk_169, h⟩ := b2_some h
                                      refine g_vI (As := []) C dL_law_1154 mf_X10_thrown k_975 rfl (by decide) ⟨by decide, by decide⟩ rfl rfl (Nat.le_of_ble_eq_true rfl) (by omega) g_167 (c_X10_thrown N (gl Γ) C.2.2.2.2 (gw Γ) 95 m_168 _ hk_169) ?_
                                      refine g_iload C dL_law_1157 1 rfl ?_
                                      refine g_icmp_eq (tgt := 1164) C dL_law_1159 (by decide) (fun c_173 => ?_) (fun c_173 => ?_)
                                      · replace h := it_t c_173 h
                                        refine g_iload C dL_law_1164 1 rfl ?_
                                        refine g_if_ne (tgt := 1181) C dL_law_1166 (by decide) (fun c_172 => ?_) (fun c_172 => ?_)
                                        · replace h := it_f c_172 h
                                          refine g_goto (tgt := 2281) C dL_law_1181 (by decide) ?_
                                          refine g_iinc (q := 7) (v := v5 + (6 : Int32)) (lv' := [(5, .int (v5 + (6 : Int32))), (7, .int r_168), (6, .int r_166), (0, .ref b), (1, .ref (oa (gw Γ) 0)), (2, .ref (oa (gw Γ) 95)), (3, .ref (oa (gw Γ) 108)), (4, .ref (oa (gw Γ) 109))]) C dL_law_2281 rfl rfl (by decide) rfl ?_
                                          refine g_goto (tgt := 28) C dL_law_2284 (by decide) ?_
                                          refine g_sub [3, 4, 5, 6, 7, 0] rfl ?_
                                          exact hrec (v5 + (6 : Int32)) m_169 _ (by omega) h
                                        · replace h := it_t c_172 h
                                          refine g_aload_n C dL_law_1169 5 rfl rfl ?_
                                          refine g_iconst (v := (0 : Int32)) C dL_law_1170 (by decide) ?_
                                          obtain ⟨g_170, h⟩ := gd_some h
                                          refine g_lald C dL_law_1171 g_170 ?_
                                          refine g_iload C dL_law_1172 0 rfl ?_
                                          refine g_i2l C dL_law_1174 ?_
                                          refine g_lcmp C dL_law_1175 ?_
                                          refine g_if_eq (tgt := 1181) C dL_law_1176 (by decide) (fun c_171 => ?_) (fun c_171 => ?_)
                                          · replace h := it_t c_171 h
                                            refine g_goto (tgt := 2281) C dL_law_1181 (by decide) ?_
                                            refine g_iinc (q := 7) (v := v5 + (6 : Int32)) (lv' := [(5, .int (v5 + (6 : Int32))), (7, .int r_168), (6, .int r_166), (0, .ref b), (1, .ref (oa (gw Γ) 0)), (2, .ref (oa (gw Γ) 95)), (3, .ref (oa (gw Γ) 108)), (4, .ref (oa (gw Γ) 109))]) C dL_law_2281 rfl rfl (by decide) rfl ?_
                                            refine g_goto (tgt := 28) C dL_law_2284 (by decide) ?_
                                            refine g_sub [3, 4, 5, 6, 7, 0] rfl ?_
                                            exact hrec (v5 + (6 : Int32)) m_169 _ (by omega) h
                                          · replace h := it_f c_171 h
                                            cases h
                                      · replace h := it_f c_173 h
                                        cases h
                                    · replace h := it_f c_174 h
                                      by_cases c_186 : ((xs v5.toNatClampNeg) &&& (63 : Int32)) = (17 : Int32)
                                      · replace h := it_t c_186 h
                                        refine g_tin (tgt := 1184) (off := 1139) C dL_law_45 (by rw [c_186]; decide) (by rw [c_186]; decide) (by rw [c_186]; rfl) (by decide) ?_
                                        refine g_aload_n C dL_law_1184 1 rfl rfl ?_
                                        refine g_aload_n C dL_law_1185 0 rfl rfl ?_
                                        refine g_iload C dL_law_1186 5 rfl ?_
                                        refine g_iconst (v := (1 : Int32)) C dL_law_1188 (by decide) ?_
                                        refine g_iadd C dL_law_1189 ?_
                                        obtain ⟨g_175, h⟩ := gd_some h
                                        refine g_sld C S dL_law_1190 g_175 ?_
                                        refine g_aload_n C dL_law_1191 0 rfl rfl ?_
                                        refine g_iload C dL_law_1192 5 rfl ?_
                                        refine g_iconst (v := (2 : Int32)) C dL_law_1194 (by decide) ?_
                                        refine g_iadd C dL_law_1195 ?_
                                        obtain ⟨g_176, h⟩ := gd_some h
                                        refine g_sld C S dL_law_1196 g_176 ?_
                                        refine g_aload_n C dL_law_1197 0 rfl rfl ?_
                                        refine g_iload C dL_law_1198 5 rfl ?_
                                        refine g_iconst (v := (3 : Int32)) C dL_law_1200 (by decide) ?_
                                        refine g_iadd C dL_law_1201 ?_
                                        obtain ⟨g_177, h⟩ := gd_some h
                                        refine g_sld C S dL_law_1202 g_177 ?_
                                        refine g_aload_n C dL_law_1203 3 rfl rfl ?_
                                        obtain ⟨r_178, m_178, hk_178, h⟩ := b2_some h
                                        refine g_wI (As := [.ref (oa (gw Γ) 0), .int (xs (v5 + (1 : Int32)).toNatClampNeg), .int (xs (v5 + (2 : Int32)).toNatClampNeg), .int (xs (v5 + (3 : Int32)).toNatClampNeg), .ref (oa (gw Γ) 108)]) (mc' := 3) C dL_law_1204 mf_L_setScore k_1065 ⟨by decide, by decide⟩ rfl rfl (Nat.le_of_ble_eq_true rfl) (by omega) (c_L_setScore N (gl Γ) C.2.2.2.2 (gw Γ) 0 (xs (v5 + (1 : Int32)).toNatClampNeg) (xs (v5 + (2 : Int32)).toNatClampNeg) (xs (v5 + (3 : Int32)).toNatClampNeg) 108 m _ hk_178) ?_
                                        refine g_istore (lv' := [(6, .int r_178), (0, .ref b), (1, .ref (oa (gw Γ) 0)), (2, .ref (oa (gw Γ) 95)), (3, .ref (oa (gw Γ) 108)), (4, .ref (oa (gw Γ) 109)), (5, .int v5)]) C dL_law_1207 (by decide) rfl ?_
                                        refine g_aload_n C dL_law_1209 3 rfl rfl ?_
                                        refine g_aload_n C dL_law_1210 1 rfl rfl ?_
                                        refine g_iload C dL_law_1211 6 rfl ?_
                                        refine g_iconst (v := (1 : Int32)) C dL_law_1213 (by decide) ?_
                                        refine g_iadd C dL_law_1214 ?_
                                        refine g_sld C S dL_law_1215 g_175 ?_
                                        refine g_aload_n C dL_law_1216 1 rfl rfl ?_
                                        refine g_iload C dL_law_1217 6 rfl ?_
                                        refine g_iconst (v := (2 : Int32)) C dL_law_1219 (by decide) ?_
                                        refine g_iadd C dL_law_1220 ?_
                                        refine g_sld C S dL_law_1221 g_176 ?_
                                        refine g_aload_n C dL_law_1222 1 rfl rfl ?_
                                        refine g_iload C dL_law_1223 6 rfl ?_
                                        refine g_iconst (v := (3 : Int32)) C dL_law_1225 (by decide) ?_
                                        refine g_iadd C dL_law_1226 ?_
                                        refine g_sld C S dL_law_1227 g_177 ?_
                                        obtain ⟨g_179, h⟩ := gd_some h
                                        obtain ⟨r_180, m_180, hk_180, h⟩ := b2_some h
                                        refine g_vI (As := [.int (xs (v5 + (1 : Int32)).toNatClampNeg), .int (xs (v5 + (2 : Int32)).toNatClampNeg), .int (xs (v5 + (3 : Int32)).toNatClampNeg)]) C dL_law_1228 mf_X10_setScore k_1066 rfl (by decide) ⟨by decide, by decide⟩ rfl rfl (Nat.le_of_ble_eq_true rfl) (by omega) g_179 (c_X10_setScore N (gl Γ) C.2.2.2.2 (gw Γ) 95 (xs (v5 + (1 : Int32)).toNatClampNeg) (xs (v5 + (2 : Int32)).toNatClampNeg) (xs (v5 + (3 : Int32)).toNatClampNeg) m_178 _ hk_180) ?_
                                        refine g_istore (lv' := [(7, .int r_180), (6, .int r_178), (0, .ref b), (1, .ref (oa (gw Γ) 0)), (2, .ref (oa (gw Γ) 95)), (3, .ref (oa (gw Γ) 108)), (4, .ref (oa (gw Γ) 109)), (5, .int v5)]) C dL_law_1231 (by decide) rfl ?_
                                        refine g_aload_n C dL_law_1233 4 rfl rfl ?_
                                        obtain ⟨r_181, m_181, hk_181, h⟩ := b2_some h
                                        refine g_vI (As := []) C dL_law_1234 mf_X10_thrown k_975 rfl (by decide) ⟨by decide, by decide⟩ rfl rfl (Nat.le_of_ble_eq_true rfl) (by omega) g_179 (c_X10_thrown N (gl Γ) C.2.2.2.2 (gw Γ) 95 m_180 _ hk_181) ?_
                                        refine g_iload C dL_law_1237 1 rfl ?_
                                        refine g_icmp_eq (tgt := 1244) C dL_law_1239 (by decide) (fun c_185 => ?_) (fun c_185 => ?_)
                                        · replace h := it_t c_185 h
                                          refine g_iload C dL_law_1244 1 rfl ?_
                                          refine g_if_ne (tgt := 1261) C dL_law_1246 (by decide) (fun c_184 => ?_) (fun c_184 => ?_)
                                          · replace h := it_f c_184 h
                                            refine g_goto (tgt := 2281) C dL_law_1261 (by decide) ?_
                                            refine g_iinc (q := 7) (v := v5 + (6 : Int32)) (lv' := [(5, .int (v5 + (6 : Int32))), (7, .int r_180), (6, .int r_178), (0, .ref b), (1, .ref (oa (gw Γ) 0)), (2, .ref (oa (gw Γ) 95)), (3, .ref (oa (gw Γ) 108)), (4, .ref (oa (gw Γ) 109))]) C dL_law_2281 rfl rfl (by decide) rfl ?_
                                            refine g_goto (tgt := 28) C dL_law_2284 (by decide) ?_
                                            refine g_sub [3, 4, 5, 6, 7, 0] rfl ?_
                                            exact hrec (v5 + (6 : Int32)) m_181 _ (by omega) h
                                          · replace h := it_t c_184 h
                                            refine g_aload_n C dL_law_1249 5 rfl rfl ?_
                                            refine g_iconst (v := (0 : Int32)) C dL_law_1250 (by decide) ?_
                                            obtain ⟨g_182, h⟩ := gd_some h
                                            refine g_lald C dL_law_1251 g_182 ?_
                                            refine g_iload C dL_law_1252 0 rfl ?_
                                            refine g_i2l C dL_law_1254 ?_
                                            refine g_lcmp C dL_law_1255 ?_
                                            refine g_if_eq (tgt := 1261) C dL_law_1256 (by decide) (fun c_183 => ?_) (fun c_183 => ?_)
                                            · replace h := it_t c_183 h
                                              refine g_goto (tgt := 2281) C dL_law_1261 (by decide) ?_
                                              refine g_iinc (q := 7) (v := v5 + (6 : Int32)) (lv' := [(5, .int (v5 + (6 : Int32))), (7, .int r_180), (6, .int r_178), (0, .ref b), (1, .ref (oa (gw Γ) 0)), (2, .ref (oa (gw Γ) 95)), (3, .ref (oa (gw Γ) 108)), (4, .ref (oa (gw Γ) 109))]) C dL_law_2281 rfl rfl (by decide) rfl ?_
                                              refine g_goto (tgt := 28) C dL_law_2284 (by decide) ?_
                                              refine g_sub [3, 4, 5, 6, 7, 0] rfl ?_
                                              exact hrec (v5 + (6 : Int32)) m_181 _ (by omega) h
                                            · replace h := it_f c_183 h
                                              cases h
                                        · replace h := it_f c_185 h
                                          cases h
                                      · replace h := it_f c_186 h
                                        by_cases c_197 : ((xs v5.toNatClampNeg) &&& (63 : Int32)) = (18 : Int32)
                                        · replace h := it_t c_197 h
                                          refine g_tin (tgt := 1264) (off := 1219) C dL_law_45 (by rw [c_197]; decide) (by rw [c_197]; decide) (by rw [c_197]; rfl) (by decide) ?_
                                          refine g_aload_n C dL_law_1264 1 rfl rfl ?_
                                          refine g_aload_n C dL_law_1265 0 rfl rfl ?_
                                          refine g_iload C dL_law_1266 5 rfl ?_
                                          refine g_iconst (v := (1 : Int32)) C dL_law_1268 (by decide) ?_
                                          refine g_iadd C dL_law_1269 ?_
                                          obtain ⟨g_187, h⟩ := gd_some h
                                          refine g_sld C S dL_law_1270 g_187 ?_
                                          refine g_aload_n C dL_law_1271 0 rfl rfl ?_
                                          refine g_iload C dL_law_1272 5 rfl ?_
                                          refine g_iconst (v := (2 : Int32)) C dL_law_1274 (by decide) ?_
                                          refine g_iadd C dL_law_1275 ?_
                                          obtain ⟨g_188, h⟩ := gd_some h
                                          refine g_sld C S dL_law_1276 g_188 ?_
                                          refine g_aload_n C dL_law_1277 3 rfl rfl ?_
                                          obtain ⟨r_189, m_189, hk_189, h⟩ := b2_some h
                                          refine g_wI (As := [.ref (oa (gw Γ) 0), .int (xs (v5 + (1 : Int32)).toNatClampNeg), .int (xs (v5 + (2 : Int32)).toNatClampNeg), .ref (oa (gw Γ) 108)]) (mc' := 3) C dL_law_1278 mf_L_adjusted k_1070 ⟨by decide, by decide⟩ rfl rfl (Nat.le_of_ble_eq_true rfl) (by omega) (c_L_adjusted N (gl Γ) C.2.2.2.2 (gw Γ) 0 (xs (v5 + (1 : Int32)).toNatClampNeg) (xs (v5 + (2 : Int32)).toNatClampNeg) 108 m _ hk_189) ?_
                                          refine g_istore (lv' := [(6, .int r_189), (0, .ref b), (1, .ref (oa (gw Γ) 0)), (2, .ref (oa (gw Γ) 95)), (3, .ref (oa (gw Γ) 108)), (4, .ref (oa (gw Γ) 109)), (5, .int v5)]) C dL_law_1281 (by decide) rfl ?_
                                          refine g_aload_n C dL_law_1283 3 rfl rfl ?_
                                          refine g_aload_n C dL_law_1284 1 rfl rfl ?_
                                          refine g_iload C dL_law_1285 6 rfl ?_
                                          refine g_iconst (v := (1 : Int32)) C dL_law_1287 (by decide) ?_
                                          refine g_iadd C dL_law_1288 ?_
                                          refine g_sld C S dL_law_1289 g_187 ?_
                                          refine g_aload_n C dL_law_1290 1 rfl rfl ?_
                                          refine g_iload C dL_law_1291 6 rfl ?_
                                          refine g_iconst (v := (2 : Int32)) C dL_law_1293 (by decide) ?_
                                          refine g_iadd C dL_law_1294 ?_
                                          refine g_sld C S dL_law_1295 g_188 ?_
                                          obtain ⟨g_190, h⟩ := gd_some h
                                          obtain ⟨r_191, m_191, hk_191, h⟩ := b2_some h
                                          refine g_vI (As := [.int (xs (v5 + (1 : Int32)).toNatClampNeg), .int (xs (v5 + (2 : Int32)).toNatClampNeg)]) C dL_law_1296 mf_X10_adjusted k_1071 rfl (by decide) ⟨by decide, by decide⟩ rfl rfl (Nat.le_of_ble_eq_true rfl) (by omega) g_190 (c_X10_adjusted N (gl Γ) C.2.2.2.2 (gw Γ) 95 (xs (v5 + (1 : Int32)).toNatClampNeg) (xs (v5 + (2 : Int32)).toNatClampNeg) m_189 _ hk_191) ?_
                                          refine g_istore (lv' := [(7, .int r_191), (6, .int r_189), (0, .ref b), (1, .ref (oa (gw Γ) 0)), (2, .ref (oa (gw Γ) 95)), (3, .ref (oa (gw Γ) 108)), (4, .ref (oa (gw Γ) 109)), (5, .int v5)]) C dL_law_1299 (by decide) rfl ?_
                                          refine g_aload_n C dL_law_1301 4 rfl rfl ?_
                                          obtain ⟨r_192, m_192, hk_192, h⟩ := b2_some h
                                          refine g_vI (As := []) C dL_law_1302 mf_X10_thrown k_975 rfl (by decide) ⟨by decide, by decide⟩ rfl rfl (Nat.le_of_ble_eq_true rfl) (by omega) g_190 (c_X10_thrown N (gl Γ) C.2.2.2.2 (gw Γ) 95 m_191 _ hk_192) ?_
                                          refine g_iload C dL_law_1305 1 rfl ?_
                                          refine g_icmp_eq (tgt := 1312) C dL_law_1307 (by decide) (fun c_196 => ?_) (fun c_196 => ?_)
                                          · replace h := it_t c_196 h
                                            refine g_iload C dL_law_1312 1 rfl ?_
                                            refine g_if_ne (tgt := 1329) C dL_law_1314 (by decide) (fun c_195 => ?_) (fun c_195 => ?_)
                                            · replace h := it_f c_195 h
                                              refine g_goto (tgt := 2281) C dL_law_1329 (by decide) ?_
                                              refine g_iinc (q := 7) (v := v5 + (6 : Int32)) (lv' := [(5, .int (v5 + (6 : Int32))), (7, .int r_191), (6, .int r_189), (0, .ref b), (1, .ref (oa (gw Γ) 0)), (2, .ref (oa (gw Γ) 95)), (3, .ref (oa (gw Γ) 108)), (4, .ref (oa (gw Γ) 109))]) C dL_law_2281 rfl rfl (by decide) rfl ?_
                                              refine g_goto (tgt := 28) C dL_law_2284 (by decide) ?_
                                              refine g_sub [3, 4, 5, 6, 7, 0] rfl ?_
                                              exact hrec (v5 + (6 : Int32)) m_192 _ (by omega) h
                                            · replace h := it_t c_195 h
                                              refine g_aload_n C dL_law_1317 5 rfl rfl ?_
                                              refine g_iconst (v := (0 : Int32)) C dL_law_1318 (by decide) ?_
                                              obtain ⟨g_193, h⟩ := gd_some h
                                              refine g_lald C dL_law_1319 g_193 ?_
                                              refine g_iload C dL_law_1320 0 rfl ?_
                                              refine g_i2l C dL_law_1322 ?_
                                              refine g_lcmp C dL_law_1323 ?_
                                              refine g_if_eq (tgt := 1329) C dL_law_1324 (by decide) (fun c_194 => ?_) (fun c_194 => ?_)
                                              · replace h := it_t c_194 h
                                                refine g_goto (tgt := 2281) C dL_law_1329 (by decide) ?_
                                                refine g_iinc (q := 7) (v := v5 + (6 : Int32)) (lv' := [(5, .int (v5 + (6 : Int32))), (7, .int r_191), (6, .int r_189), (0, .ref b), (1, .ref (oa (gw Γ) 0)), (2, .ref (oa (gw Γ) 95)), (3, .ref (oa (gw Γ) 108)), (4, .ref (oa (gw Γ) 109))]) C dL_law_2281 rfl rfl (by decide) rfl ?_
                                                refine g_goto (tgt := 28) C dL_law_2284 (by decide) ?_
                                                refine g_sub [3, 4, 5, 6, 7, 0] rfl ?_
                                                exact hrec (v5 + (6 : Int32)) m_192 _ (by omega) h
                                              · replace h := it_f c_194 h
                                                cases h
                                          · replace h := it_f c_196 h
                                            cases h
                                        · replace h := it_f c_197 h
                                          by_cases c_207 : ((xs v5.toNatClampNeg) &&& (63 : Int32)) = (19 : Int32)
                                          · replace h := it_t c_207 h
                                            refine g_tin (tgt := 1332) (off := 1287) C dL_law_45 (by rw [c_207]; decide) (by rw [c_207]; decide) (by rw [c_207]; rfl) (by decide) ?_
                                            refine g_aload_n C dL_law_1332 1 rfl rfl ?_
                                            refine g_aload_n C dL_law_1333 0 rfl rfl ?_
                                            refine g_iload C dL_law_1334 5 rfl ?_
                                            refine g_iconst (v := (1 : Int32)) C dL_law_1336 (by decide) ?_
                                            refine g_iadd C dL_law_1337 ?_
                                            obtain ⟨g_198, h⟩ := gd_some h
                                            refine g_sld C S dL_law_1338 g_198 ?_
                                            refine g_aload_n C dL_law_1339 3 rfl rfl ?_
                                            obtain ⟨r_199, m_199, hk_199, h⟩ := b2_some h
                                            refine g_wI (As := [.ref (oa (gw Γ) 0), .int (xs (v5 + (1 : Int32)).toNatClampNeg), .ref (oa (gw Γ) 108)]) (mc' := 2) C dL_law_1340 mf_L_normalized k_1075 ⟨by decide, by decide⟩ rfl rfl (Nat.le_of_ble_eq_true rfl) (by omega) (c_L_normalized N (gl Γ) C.2.2.2.2 (gw Γ) 0 (xs (v5 + (1 : Int32)).toNatClampNeg) 108 m _ hk_199) ?_
                                            refine g_istore (lv' := [(6, .int r_199), (0, .ref b), (1, .ref (oa (gw Γ) 0)), (2, .ref (oa (gw Γ) 95)), (3, .ref (oa (gw Γ) 108)), (4, .ref (oa (gw Γ) 109)), (5, .int v5)]) C dL_law_1343 (by decide) rfl ?_
                                            refine g_aload_n C dL_law_1345 3 rfl rfl ?_
                                            refine g_aload_n C dL_law_1346 1 rfl rfl ?_
                                            refine g_iload C dL_law_1347 6 rfl ?_
                                            refine g_iconst (v := (1 : Int32)) C dL_law_1349 (by decide) ?_
                                            refine g_iadd C dL_law_1350 ?_
                                            refine g_sld C S dL_law_1351 g_198 ?_
                                            obtain ⟨g_200, h⟩ := gd_some h
                                            obtain ⟨r_201, m_201, hk_201, h⟩ := b2_some h
                                            refine g_vI (As := [.int (xs (v5 + (1 : Int32)).toNatClampNeg)]) C dL_law_1352 mf_X10_normalized k_1076 rfl (by decide) ⟨by decide, by decide⟩ rfl rfl (Nat.le_of_ble_eq_true rfl) (by omega) g_200 (c_X10_normalized N (gl Γ) C.2.2.2.2 (gw Γ) 95 (xs (v5 + (1 : Int32)).toNatClampNeg) m_199 _ hk_201) ?_
                                            refine g_istore (lv' := [(7, .int r_201), (6, .int r_199), (0, .ref b), (1, .ref (oa (gw Γ) 0)), (2, .ref (oa (gw Γ) 95)), (3, .ref (oa (gw Γ) 108)), (4, .ref (oa (gw Γ) 109)), (5, .int v5)]) C dL_law_1355 (by decide) rfl ?_
                                            refine g_aload_n C dL_law_1357 4 rfl rfl ?_
                                            obtain ⟨r_202, m_202, hk_202, h⟩ := b2_some h
                                            refine g_vI (As := []) C dL_law_1358 mf_X10_thrown k_975 rfl (by decide) ⟨by decide, by decide⟩ rfl rfl (Nat.le_of_ble_eq_true rfl) (by omega) g_200 (c_X10_thrown N (gl Γ) C.2.2.2.2 (gw Γ) 95 m_201 _ hk_202) ?_
                                            refine g_iload C dL_law_1361 1 rfl ?_
                                            refine g_icmp_eq (tgt := 1368) C dL_law_1363 (by decide) (fun c_206 => ?_) (fun c_206 => ?_)
                                            · replace h := it_t c_206 h
                                              refine g_iload C dL_law_1368 1 rfl ?_
                                              refine g_if_ne (tgt := 1385) C dL_law_1370 (by decide) (fun c_205 => ?_) (fun c_205 => ?_)
                                              · replace h := it_f c_205 h
                                                refine g_goto (tgt := 2281) C dL_law_1385 (by decide) ?_
                                                refine g_iinc (q := 7) (v := v5 + (6 : Int32)) (lv' := [(5, .int (v5 + (6 : Int32))), (7, .int r_201), (6, .int r_199), (0, .ref b), (1, .ref (oa (gw Γ) 0)), (2, .ref (oa (gw Γ) 95)), (3, .ref (oa (gw Γ) 108)), (4, .ref (oa (gw Γ) 109))]) C dL_law_2281 rfl rfl (by decide) rfl ?_
                                                refine g_goto (tgt := 28) C dL_law_2284 (by decide) ?_
                                                refine g_sub [3, 4, 5, 6, 7, 0] rfl ?_
                                                exact hrec (v5 + (6 : Int32)) m_202 _ (by omega) h
                                              · replace h := it_t c_205 h
                                                refine g_aload_n C dL_law_1373 5 rfl rfl ?_
                                                refine g_iconst (v := (0 : Int32)) C dL_law_1374 (by decide) ?_
                                                obtain ⟨g_203, h⟩ := gd_some h
                                                refine g_lald C dL_law_1375 g_203 ?_
                                                refine g_iload C dL_law_1376 0 rfl ?_
                                                refine g_i2l C dL_law_1378 ?_
                                                refine g_lcmp C dL_law_1379 ?_
                                                refine g_if_eq (tgt := 1385) C dL_law_1380 (by decide) (fun c_204 => ?_) (fun c_204 => ?_)
                                                · replace h := it_t c_204 h
                                                  refine g_goto (tgt := 2281) C dL_law_1385 (by decide) ?_
                                                  refine g_iinc (q := 7) (v := v5 + (6 : Int32)) (lv' := [(5, .int (v5 + (6 : Int32))), (7, .int r_201), (6, .int r_199), (0, .ref b), (1, .ref (oa (gw Γ) 0)), (2, .ref (oa (gw Γ) 95)), (3, .ref (oa (gw Γ) 108)), (4, .ref (oa (gw Γ) 109))]) C dL_law_2281 rfl rfl (by decide) rfl ?_
                                                  refine g_goto (tgt := 28) C dL_law_2284 (by decide) ?_
                                                  refine g_sub [3, 4, 5, 6, 7, 0] rfl ?_
                                                  exact hrec (v5 + (6 : Int32)) m_202 _ (by omega) h
                                                · replace h := it_f c_204 h
                                                  cases h
                                            · replace h := it_f c_206 h
                                              cases h
                                          · replace h := it_f c_207 h
                                            by_cases c_219 : ((xs v5.toNatClampNeg) &&& (63 : Int32)) = (20 : Int32)
                                            · replace h := it_t c_219 h
                                              refine g_tin (tgt := 1388) (off := 1343) C dL_law_45 (by rw [c_219]; decide) (by rw [c_219]; decide) (by rw [c_219]; rfl) (by decide) ?_
                                              refine g_aload_n C dL_law_1388 1 rfl rfl ?_
                                              refine g_aload_n C dL_law_1389 0 rfl rfl ?_
                                              refine g_iload C dL_law_1390 5 rfl ?_
                                              refine g_iconst (v := (1 : Int32)) C dL_law_1392 (by decide) ?_
                                              refine g_iadd C dL_law_1393 ?_
                                              obtain ⟨g_208, h⟩ := gd_some h
                                              refine g_sld C S dL_law_1394 g_208 ?_
                                              refine g_aload C dL_law_1395 4 rfl ?_
                                              obtain ⟨r_209, m_209, hk_209, h⟩ := b2_some h
                                              refine g_wI (As := [.ref (oa (gw Γ) 0), .int (xs (v5 + (1 : Int32)).toNatClampNeg), .ref (oa (gw Γ) 109)]) (mc' := 2) C dL_law_1397 mf_L_leniency k_1080 ⟨by decide, by decide⟩ rfl rfl (Nat.le_of_ble_eq_true rfl) (by omega) (c_L_leniency N (gl Γ) C.2.2.2.2 (gw Γ) 0 (xs (v5 + (1 : Int32)).toNatClampNeg) 109 m _ hk_209) ?_
                                              refine g_istore (lv' := [(6, .int r_209), (0, .ref b), (1, .ref (oa (gw Γ) 0)), (2, .ref (oa (gw Γ) 95)), (3, .ref (oa (gw Γ) 108)), (4, .ref (oa (gw Γ) 109)), (5, .int v5)]) C dL_law_1400 (by decide) rfl ?_
                                              refine g_aload_n C dL_law_1402 3 rfl rfl ?_
                                              refine g_aload_n C dL_law_1403 1 rfl rfl ?_
                                              refine g_iload C dL_law_1404 6 rfl ?_
                                              refine g_iconst (v := (1 : Int32)) C dL_law_1406 (by decide) ?_
                                              refine g_iadd C dL_law_1407 ?_
                                              refine g_sld C S dL_law_1408 g_208 ?_
                                              obtain ⟨g_210, h⟩ := gd_some h
                                              obtain ⟨r_211, m_211, hk_211, h⟩ := b2_some h
                                              refine g_vD (As := [.int (xs (v5 + (1 : Int32)).toNatClampNeg)]) C dL_law_1409 mf_X10_leniency k_1081 rfl (by decide) ⟨by decide, by decide⟩ rfl rfl (Nat.le_of_ble_eq_true rfl) (by omega) g_210 (c_X10_leniency N (gl Γ) C.2.2.2.2 (gw Γ) 95 (xs (v5 + (1 : Int32)).toNatClampNeg) m_209 _ hk_211) ?_
                                              refine g_dstore (lv' := [(7, .double r_211), (6, .int r_209), (0, .ref b), (1, .ref (oa (gw Γ) 0)), (2, .ref (oa (gw Γ) 95)), (3, .ref (oa (gw Γ) 108)), (4, .ref (oa (gw Γ) 109)), (5, .int v5)]) C dL_law_1412 (by decide) rfl ?_
                                              refine g_aload_n C dL_law_1414 4 rfl rfl ?_
                                              obtain ⟨r_212, m_212, hk_212, h⟩ := b2_some h
                                              refine g_vI (As := []) C dL_law_1415 mf_X10_thrown k_975 rfl (by decide) ⟨by decide, by decide⟩ rfl rfl (Nat.le_of_ble_eq_true rfl) (by omega) g_210 (c_X10_thrown N (gl Γ) C.2.2.2.2 (gw Γ) 95 m_211 _ hk_212) ?_
                                              refine g_iload C dL_law_1418 1 rfl ?_
                                              refine g_icmp_eq (tgt := 1425) C dL_law_1420 (by decide) (fun c_218 => ?_) (fun c_218 => ?_)
                                              · replace h := it_t c_218 h
                                                refine g_iload C dL_law_1425 1 rfl ?_
                                                refine g_if_ne (tgt := 1462) C dL_law_1427 (by decide) (fun c_217 => ?_) (fun c_217 => ?_)
                                                · replace h := it_f c_217 h
                                                  refine g_goto (tgt := 2281) C dL_law_1462 (by decide) ?_
                                                  refine g_iinc (q := 7) (v := v5 + (6 : Int32)) (lv' := [(5, .int (v5 + (6 : Int32))), (7, .double r_211), (6, .int r_209), (0, .ref b), (1, .ref (oa (gw Γ) 0)), (2, .ref (oa (gw Γ) 95)), (3, .ref (oa (gw Γ) 108)), (4, .ref (oa (gw Γ) 109))]) C dL_law_2281 rfl rfl (by decide) rfl ?_
                                                  refine g_goto (tgt := 28) C dL_law_2284 (by decide) ?_
                                                  refine g_sub [3, 4, 5, 6, 7, 0] rfl ?_
                                                  exact hrec (v5 + (6 : Int32)) m_212 _ (by omega) h
                                                · replace h := it_t c_217 h
                                                  refine g_aload C dL_law_1430 6 rfl ?_
                                                  refine g_iconst (v := (0 : Int32)) C dL_law_1432 (by decide) ?_
                                                  obtain ⟨g_213, h⟩ := gd_some h
                                                  refine g_dald C dL_law_1433 g_213 ?_
                                                  refine g_dload C dL_law_1434 0 rfl ?_
                                                  refine g_dcmp C dL_law_1436 ?_
                                                  refine g_if_eq (tgt := 1462) C dL_law_1437 (by decide) (fun c_216 => ?_) (fun c_216 => ?_)
                                                  · replace h := it_t c_216 h
                                                    refine g_goto (tgt := 2281) C dL_law_1462 (by decide) ?_
                                                    refine g_iinc (q := 7) (v := v5 + (6 : Int32)) (lv' := [(5, .int (v5 + (6 : Int32))), (7, .double r_211), (6, .int r_209), (0, .ref b), (1, .ref (oa (gw Γ) 0)), (2, .ref (oa (gw Γ) 95)), (3, .ref (oa (gw Γ) 108)), (4, .ref (oa (gw Γ) 109))]) C dL_law_2281 rfl rfl (by decide) rfl ?_
                                                    refine g_goto (tgt := 28) C dL_law_2284 (by decide) ?_
                                                    refine g_sub [3, 4, 5, 6, 7, 0] rfl ?_
                                                    exact hrec (v5 + (6 : Int32)) m_212 _ (by omega) h
                                                  · replace h := it_f c_216 h
                                                    refine g_aload C dL_law_1440 6 rfl ?_
                                                    refine g_iconst (v := (0 : Int32)) C dL_law_1442 (by decide) ?_
                                                    refine g_dald C dL_law_1443 g_213 ?_
                                                    refine g_aload C dL_law_1444 6 rfl ?_
                                                    refine g_iconst (v := (0 : Int32)) C dL_law_1446 (by decide) ?_
                                                    refine g_dald C dL_law_1447 g_213 ?_
                                                    refine g_dcmp C dL_law_1448 ?_
                                                    refine g_if_eq (tgt := 1460) C dL_law_1449 (by decide) (fun c_215 => ?_) (fun c_215 => ?_)
                                                    · replace h := it_t c_215 h
                                                      cases h
                                                    · replace h := it_f c_215 h
                                                      refine g_dload C dL_law_1452 0 rfl ?_
                                                      refine g_dload C dL_law_1454 0 rfl ?_
                                                      refine g_dcmp C dL_law_1456 ?_
                                                      refine g_if_ne (tgt := 1462) C dL_law_1457 (by decide) (fun c_214 => ?_) (fun c_214 => ?_)
                                                      · replace h := it_f c_214 h
                                                        refine g_goto (tgt := 2281) C dL_law_1462 (by decide) ?_
                                                        refine g_iinc (q := 7) (v := v5 + (6 : Int32)) (lv' := [(5, .int (v5 + (6 : Int32))), (7, .double r_211), (6, .int r_209), (0, .ref b), (1, .ref (oa (gw Γ) 0)), (2, .ref (oa (gw Γ) 95)), (3, .ref (oa (gw Γ) 108)), (4, .ref (oa (gw Γ) 109))]) C dL_law_2281 rfl rfl (by decide) rfl ?_
                                                        refine g_goto (tgt := 28) C dL_law_2284 (by decide) ?_
                                                        refine g_sub [3, 4, 5, 6, 7, 0] rfl ?_
                                                        exact hrec (v5 + (6 : Int32)) m_212 _ (by omega) h
                                                      · replace h := it_t c_214 h
                                                        cases h
                                              · replace h := it_f c_218 h
                                                cases h
                                            · replace h := it_f c_219 h
                                              by_cases c_231 : ((xs v5.toNatClampNeg) &&& (63 : Int32)) = (21 : Int32)
                                              · replace h := it_t c_231 h
                                                refine g_tin (tgt := 1465) (off := 1420) C dL_law_45 (by rw [c_231]; decide) (by rw [c_231]; decide) (by rw [c_231]; rfl) (by decide) ?_
                                                refine g_aload_n C dL_law_1465 1 rfl rfl ?_
                                                refine g_aload_n C dL_law_1466 0 rfl rfl ?_
                                                refine g_iload C dL_law_1467 5 rfl ?_
                                                refine g_iconst (v := (1 : Int32)) C dL_law_1469 (by decide) ?_
                                                refine g_iadd C dL_law_1470 ?_
                                                obtain ⟨g_220, h⟩ := gd_some h
                                                refine g_sld C S dL_law_1471 g_220 ?_
                                                refine g_aload C dL_law_1472 4 rfl ?_
                                                obtain ⟨r_221, m_221, hk_221, h⟩ := b2_some h
                                                refine g_wI (As := [.ref (oa (gw Γ) 0), .int (xs (v5 + (1 : Int32)).toNatClampNeg), .ref (oa (gw Γ) 109)]) (mc' := 2) C dL_law_1474 mf_L_disagreement k_1085 ⟨by decide, by decide⟩ rfl rfl (Nat.le_of_ble_eq_true rfl) (by omega) (c_L_disagreement N (gl Γ) C.2.2.2.2 (gw Γ) 0 (xs (v5 + (1 : Int32)).toNatClampNeg) 109 m _ hk_221) ?_
                                                refine g_istore (lv' := [(6, .int r_221), (0, .ref b), (1, .ref (oa (gw Γ) 0)), (2, .ref (oa (gw Γ) 95)), (3, .ref (oa (gw Γ) 108)), (4, .ref (oa (gw Γ) 109)), (5, .int v5)]) C dL_law_1477 (by decide) rfl ?_
                                                refine g_aload_n C dL_law_1479 3 rfl rfl ?_
                                                refine g_aload_n C dL_law_1480 1 rfl rfl ?_
                                                refine g_iload C dL_law_1481 6 rfl ?_
                                                refine g_iconst (v := (1 : Int32)) C dL_law_1483 (by decide) ?_
                                                refine g_iadd C dL_law_1484 ?_
                                                refine g_sld C S dL_law_1485 g_220 ?_
                                                obtain ⟨g_222, h⟩ := gd_some h
                                                obtain ⟨r_223, m_223, hk_223, h⟩ := b2_some h
                                                refine g_vD (As := [.int (xs (v5 + (1 : Int32)).toNatClampNeg)]) C dL_law_1486 mf_X10_disagreement k_1086 rfl (by decide) ⟨by decide, by decide⟩ rfl rfl (Nat.le_of_ble_eq_true rfl) (by omega) g_222 (c_X10_disagreement N (gl Γ) C.2.2.2.2 (gw Γ) 95 (xs (v5 + (1 : Int32)).toNatClampNeg) m_221 _ hk_223) ?_
                                                refine g_dstore (lv' := [(7, .double r_223), (6, .int r_221), (0, .ref b), (1, .ref (oa (gw Γ) 0)), (2, .ref (oa (gw Γ) 95)), (3, .ref (oa (gw Γ) 108)), (4, .ref (oa (gw Γ) 109)), (5, .int v5)]) C dL_law_1489 (by decide) rfl ?_
                                                refine g_aload_n C dL_law_1491 4 rfl rfl ?_
                                                obtain ⟨r_224, m_224, hk_224, h⟩ := b2_some h
                                                refine g_vI (As := []) C dL_law_1492 mf_X10_thrown k_975 rfl (by decide) ⟨by decide, by decide⟩ rfl rfl (Nat.le_of_ble_eq_true rfl) (by omega) g_222 (c_X10_thrown N (gl Γ) C.2.2.2.2 (gw Γ) 95 m_223 _ hk_224) ?_
                                                refine g_iload C dL_law_1495 1 rfl ?_
                                                refine g_icmp_eq (tgt := 1502) C dL_law_1497 (by decide) (fun c_230 => ?_) (fun c_230 => ?_)
                                                · replace h := it_t c_230 h
                                                  refine g_iload C dL_law_1502 1 rfl ?_
                                                  refine g_if_ne (tgt := 1539) C dL_law_1504 (by decide) (fun c_229 => ?_) (fun c_229 => ?_)
                                                  · replace h := it_f c_229 h
                                                    refine g_goto (tgt := 2281) C dL_law_1539 (by decide) ?_
                                                    refine g_iinc (q := 7) (v := v5 + (6 : Int32)) (lv' := [(5, .int (v5 + (6 : Int32))), (7, .double r_223), (6, .int r_221), (0, .ref b), (1, .ref (oa (gw Γ) 0)), (2, .ref (oa (gw Γ) 95)), (3, .ref (oa (gw Γ) 108)), (4, .ref (oa (gw Γ) 109))]) C dL_law_2281 rfl rfl (by decide) rfl ?_
                                                    refine g_goto (tgt := 28) C dL_law_2284 (by decide) ?_
                                                    refine g_sub [3, 4, 5, 6, 7, 0] rfl ?_
                                                    exact hrec (v5 + (6 : Int32)) m_224 _ (by omega) h
                                                  · replace h := it_t c_229 h
                                                    refine g_aload C dL_law_1507 6 rfl ?_
                                                    refine g_iconst (v := (0 : Int32)) C dL_law_1509 (by decide) ?_
                                                    obtain ⟨g_225, h⟩ := gd_some h
                                                    refine g_dald C dL_law_1510 g_225 ?_
                                                    refine g_dload C dL_law_1511 0 rfl ?_
                                                    refine g_dcmp C dL_law_1513 ?_
                                                    refine g_if_eq (tgt := 1539) C dL_law_1514 (by decide) (fun c_228 => ?_) (fun c_228 => ?_)
                                                    · replace h := it_t c_228 h
                                                      refine g_goto (tgt := 2281) C dL_law_1539 (by decide) ?_
                                                      refine g_iinc (q := 7) (v := v5 + (6 : Int32)) (lv' := [(5, .int (v5 + (6 : Int32))), (7, .double r_223), (6, .int r_221), (0, .ref b), (1, .ref (oa (gw Γ) 0)), (2, .ref (oa (gw Γ) 95)), (3, .ref (oa (gw Γ) 108)), (4, .ref (oa (gw Γ) 109))]) C dL_law_2281 rfl rfl (by decide) rfl ?_
                                                      refine g_goto (tgt := 28) C dL_law_2284 (by decide) ?_
                                                      refine g_sub [3, 4, 5, 6, 7, 0] rfl ?_
                                                      exact hrec (v5 + (6 : Int32)) m_224 _ (by omega) h
                                                    · replace h := it_f c_228 h
                                                      refine g_aload C dL_law_1517 6 rfl ?_
                                                      refine g_iconst (v := (0 : Int32)) C dL_law_1519 (by decide) ?_
                                                      refine g_dald C dL_law_1520 g_225 ?_
                                                      refine g_aload C dL_law_1521 6 rfl ?_
                                                      refine g_iconst (v := (0 : Int32)) C dL_law_1523 (by decide) ?_
                                                      refine g_dald C dL_law_1524 g_225 ?_
                                                      refine g_dcmp C dL_law_1525 ?_
                                                      refine g_if_eq (tgt := 1537) C dL_law_1526 (by decide) (fun c_227 => ?_) (fun c_227 => ?_)
                                                      · replace h := it_t c_227 h
                                                        cases h
                                                      · replace h := it_f c_227 h
                                                        refine g_dload C dL_law_1529 0 rfl ?_
                                                        refine g_dload C dL_law_1531 0 rfl ?_
                                                        refine g_dcmp C dL_law_1533 ?_
                                                        refine g_if_ne (tgt := 1539) C dL_law_1534 (by decide) (fun c_226 => ?_) (fun c_226 => ?_)
                                                        · replace h := it_f c_226 h
                                                          refine g_goto (tgt := 2281) C dL_law_1539 (by decide) ?_
                                                          refine g_iinc (q := 7) (v := v5 + (6 : Int32)) (lv' := [(5, .int (v5 + (6 : Int32))), (7, .double r_223), (6, .int r_221), (0, .ref b), (1, .ref (oa (gw Γ) 0)), (2, .ref (oa (gw Γ) 95)), (3, .ref (oa (gw Γ) 108)), (4, .ref (oa (gw Γ) 109))]) C dL_law_2281 rfl rfl (by decide) rfl ?_
                                                          refine g_goto (tgt := 28) C dL_law_2284 (by decide) ?_
                                                          refine g_sub [3, 4, 5, 6, 7, 0] rfl ?_
                                                          exact hrec (v5 + (6 : Int32)) m_224 _ (by omega) h
                                                        · replace h := it_t c_226 h
                                                          cases h
                                                · replace h := it_f c_230 h
                                                  cases h
                                              · replace h := it_f c_231 h
                                                by_cases c_241 : ((xs v5.toNatClampNeg) &&& (63 : Int32)) = (22 : Int32)
                                                · replace h := it_t c_241 h
                                                  refine g_tin (tgt := 1542) (off := 1497) C dL_law_45 (by rw [c_241]; decide) (by rw [c_241]; decide) (by rw [c_241]; rfl) (by decide) ?_
                                                  refine g_aload_n C dL_law_1542 1 rfl rfl ?_
                                                  refine g_aload_n C dL_law_1543 0 rfl rfl ?_
                                                  refine g_iload C dL_law_1544 5 rfl ?_
                                                  refine g_iconst (v := (1 : Int32)) C dL_law_1546 (by decide) ?_
                                                  refine g_iadd C dL_law_1547 ?_
                                                  obtain ⟨g_232, h⟩ := gd_some h
                                                  refine g_sld C S dL_law_1548 g_232 ?_
                                                  refine g_aload_n C dL_law_1549 3 rfl rfl ?_
                                                  obtain ⟨r_233, m_233, hk_233, h⟩ := b2_some h
                                                  refine g_wI (As := [.ref (oa (gw Γ) 0), .int (xs (v5 + (1 : Int32)).toNatClampNeg), .ref (oa (gw Γ) 108)]) (mc' := 2) C dL_law_1550 mf_L_rank k_1090 ⟨by decide, by decide⟩ rfl rfl (Nat.le_of_ble_eq_true rfl) (by omega) (c_L_rank N (gl Γ) C.2.2.2.2 (gw Γ) 0 (xs (v5 + (1 : Int32)).toNatClampNeg) 108 m _ hk_233) ?_
                                                  refine g_istore (lv' := [(6, .int r_233), (0, .ref b), (1, .ref (oa (gw Γ) 0)), (2, .ref (oa (gw Γ) 95)), (3, .ref (oa (gw Γ) 108)), (4, .ref (oa (gw Γ) 109)), (5, .int v5)]) C dL_law_1553 (by decide) rfl ?_
                                                  refine g_aload_n C dL_law_1555 3 rfl rfl ?_
                                                  refine g_aload_n C dL_law_1556 1 rfl rfl ?_
                                                  refine g_iload C dL_law_1557 6 rfl ?_
                                                  refine g_iconst (v := (1 : Int32)) C dL_law_1559 (by decide) ?_
                                                  refine g_iadd C dL_law_1560 ?_
                                                  refine g_sld C S dL_law_1561 g_232 ?_
                                                  obtain ⟨g_234, h⟩ := gd_some h
                                                  obtain ⟨r_235, m_235, hk_235, h⟩ := b2_some h
                                                  refine g_vI (As := [.int (xs (v5 + (1 : Int32)).toNatClampNeg)]) C dL_law_1562 mf_X10_rank k_1091 rfl (by decide) ⟨by decide, by decide⟩ rfl rfl (Nat.le_of_ble_eq_true rfl) (by omega) g_234 (c_X10_rank N (gl Γ) C.2.2.2.2 (gw Γ) 95 (xs (v5 + (1 : Int32)).toNatClampNeg) m_233 _ hk_235) ?_
                                                  refine g_istore (lv' := [(7, .int r_235), (6, .int r_233), (0, .ref b), (1, .ref (oa (gw Γ) 0)), (2, .ref (oa (gw Γ) 95)), (3, .ref (oa (gw Γ) 108)), (4, .ref (oa (gw Γ) 109)), (5, .int v5)]) C dL_law_1565 (by decide) rfl ?_
                                                  refine g_aload_n C dL_law_1567 4 rfl rfl ?_
                                                  obtain ⟨r_236, m_236, hk_236, h⟩ := b2_some h
                                                  refine g_vI (As := []) C dL_law_1568 mf_X10_thrown k_975 rfl (by decide) ⟨by decide, by decide⟩ rfl rfl (Nat.le_of_ble_eq_true rfl) (by omega) g_234 (c_X10_thrown N (gl Γ) C.2.2.2.2 (gw Γ) 95 m_235 _ hk_236) ?_
                                                  refine g_iload C dL_law_1571 1 rfl ?_
                                                  refine g_icmp_eq (tgt := 1578) C dL_law_1573 (by decide) (fun c_240 => ?_) (fun c_240 => ?_)
                                                  · replace h := it_t c_240 h
                                                    refine g_iload C dL_law_1578 1 rfl ?_
                                                    refine g_if_ne (tgt := 1595) C dL_law_1580 (by decide) (fun c_239 => ?_) (fun c_239 => ?_)
                                                    · replace h := it_f c_239 h
                                                      refine g_goto (tgt := 2281) C dL_law_1595 (by decide) ?_
                                                      refine g_iinc (q := 7) (v := v5 + (6 : Int32)) (lv' := [(5, .int (v5 + (6 : Int32))), (7, .int r_235), (6, .int r_233), (0, .ref b), (1, .ref (oa (gw Γ) 0)), (2, .ref (oa (gw Γ) 95)), (3, .ref (oa (gw Γ) 108)), (4, .ref (oa (gw Γ) 109))]) C dL_law_2281 rfl rfl (by decide) rfl ?_
                                                      refine g_goto (tgt := 28) C dL_law_2284 (by decide) ?_
                                                      refine g_sub [3, 4, 5, 6, 7, 0] rfl ?_
                                                      exact hrec (v5 + (6 : Int32)) m_236 _ (by omega) h
                                                    · replace h := it_t c_239 h
                                                      refine g_aload_n C dL_law_1583 5 rfl rfl ?_
                                                      refine g_iconst (v := (0 : Int32)) C dL_law_1584 (by decide) ?_
                                                      obtain ⟨g_237, h⟩ := gd_some h
                                                      refine g_lald C dL_law_1585 g_237 ?_
                                                      refine g_iload C dL_law_1586 0 rfl ?_
                                                      refine g_i2l C dL_law_1588 ?_
                                                      refine g_lcmp C dL_law_1589 ?_
                                                      refine g_if_eq (tgt := 1595) C dL_law_1590 (by decide) (fun c_238 => ?_) (fun c_238 => ?_)
                                                      · replace h := it_t c_238 h
                                                        refine g_goto (tgt := 2281) C dL_law_1595 (by decide) ?_
                                                        refine g_iinc (q := 7) (v := v5 + (6 : Int32)) (lv' := [(5, .int (v5 + (6 : Int32))), (7, .int r_235), (6, .int r_233), (0, .ref b), (1, .ref (oa (gw Γ) 0)), (2, .ref (oa (gw Γ) 95)), (3, .ref (oa (gw Γ) 108)), (4, .ref (oa (gw Γ) 109))]) C dL_law_2281 rfl rfl (by decide) rfl ?_
                                                        refine g_goto (tgt := 28) C dL_law_2284 (by decide) ?_
                                                        refine g_sub [3, 4, 5, 6, 7, 0] rfl ?_
                                                        exact hrec (v5 + (6 : Int32)) m_236 _ (by omega) h
                                                      · replace h := it_f c_238 h
                                                        cases h
                                                  · replace h := it_f c_240 h
                                                    cases h
                                                · replace h := it_f c_241 h
                                                  by_cases c_252 : ((xs v5.toNatClampNeg) &&& (63 : Int32)) = (23 : Int32)
                                                  · replace h := it_t c_252 h
                                                    refine g_tin (tgt := 1598) (off := 1553) C dL_law_45 (by rw [c_252]; decide) (by rw [c_252]; decide) (by rw [c_252]; rfl) (by decide) ?_
                                                    refine g_aload_n C dL_law_1598 1 rfl rfl ?_
                                                    refine g_aload_n C dL_law_1599 0 rfl rfl ?_
                                                    refine g_iload C dL_law_1600 5 rfl ?_
                                                    refine g_iconst (v := (1 : Int32)) C dL_law_1602 (by decide) ?_
                                                    refine g_iadd C dL_law_1603 ?_
                                                    obtain ⟨g_242, h⟩ := gd_some h
                                                    refine g_sld C S dL_law_1604 g_242 ?_
                                                    refine g_aload_n C dL_law_1605 0 rfl rfl ?_
                                                    refine g_iload C dL_law_1606 5 rfl ?_
                                                    refine g_iconst (v := (2 : Int32)) C dL_law_1608 (by decide) ?_
                                                    refine g_iadd C dL_law_1609 ?_
                                                    obtain ⟨g_243, h⟩ := gd_some h
                                                    refine g_sld C S dL_law_1610 g_243 ?_
                                                    refine g_aload_n C dL_law_1611 3 rfl rfl ?_
                                                    obtain ⟨r_244, m_244, hk_244, h⟩ := b2_some h
                                                    refine g_wI (As := [.ref (oa (gw Γ) 0), .int (xs (v5 + (1 : Int32)).toNatClampNeg), .int (xs (v5 + (2 : Int32)).toNatClampNeg), .ref (oa (gw Γ) 108)]) (mc' := 2) C dL_law_1612 mf_L_ranked k_1095 ⟨by decide, by decide⟩ rfl rfl (Nat.le_of_ble_eq_true rfl) (by omega) (c_L_ranked N (gl Γ) C.2.2.2.2 (gw Γ) 0 (xs (v5 + (1 : Int32)).toNatClampNeg) (xs (v5 + (2 : Int32)).toNatClampNeg) 108 m _ hk_244) ?_
                                                    refine g_istore (lv' := [(6, .int r_244), (0, .ref b), (1, .ref (oa (gw Γ) 0)), (2, .ref (oa (gw Γ) 95)), (3, .ref (oa (gw Γ) 108)), (4, .ref (oa (gw Γ) 109)), (5, .int v5)]) C dL_law_1615 (by decide) rfl ?_
                                                    refine g_aload_n C dL_law_1617 3 rfl rfl ?_
                                                    refine g_aload_n C dL_law_1618 1 rfl rfl ?_
                                                    refine g_iload C dL_law_1619 6 rfl ?_
                                                    refine g_iconst (v := (1 : Int32)) C dL_law_1621 (by decide) ?_
                                                    refine g_iadd C dL_law_1622 ?_
                                                    refine g_sld C S dL_law_1623 g_242 ?_
                                                    refine g_aload_n C dL_law_1624 1 rfl rfl ?_
                                                    refine g_iload C dL_law_1625 6 rfl ?_
                                                    refine g_iconst (v := (2 : Int32)) C dL_law_1627 (by decide) ?_
                                                    refine g_iadd C dL_law_1628 ?_
                                                    refine g_sld C S dL_law_1629 g_243 ?_
                                                    obtain ⟨g_245, h⟩ := gd_some h
                                                    obtain ⟨r_246, m_246, hk_246, h⟩ := b2_some h
                                                    refine g_vI (As := [.int (xs (v5 + (1 : Int32)).toNatClampNeg), .int (xs (v5 + (2 : Int32)).toNatClampNeg)]) C dL_law_1630 mf_X10_ranked k_1096 rfl (by decide) ⟨by decide, by decide⟩ rfl rfl (Nat.le_of_ble_eq_true rfl) (by omega) g_245 (c_X10_ranked N (gl Γ) C.2.2.2.2 (gw Γ) 95 (xs (v5 + (1 : Int32)).toNatClampNeg) (xs (v5 + (2 : Int32)).toNatClampNeg) m_244 _ hk_246) ?_
                                                    refine g_istore (lv' := [(7, .int r_246), (6, .int r_244), (0, .ref b), (1, .ref (oa (gw Γ) 0)), (2, .ref (oa (gw Γ) 95)), (3, .ref (oa (gw Γ) 108)), (4, .ref (oa (gw Γ) 109)), (5, .int v5)]) C dL_law_1633 (by decide) rfl ?_
                                                    refine g_aload_n C dL_law_1635 4 rfl rfl ?_
                                                    obtain ⟨r_247, m_247, hk_247, h⟩ := b2_some h
                                                    refine g_vI (As := []) C dL_law_1636 mf_X10_thrown k_975 rfl (by decide) ⟨by decide, by decide⟩ rfl rfl (Nat.le_of_ble_eq_true rfl) (by omega) g_245 (c_X10_thrown N (gl Γ) C.2.2.2.2 (gw Γ) 95 m_246 _ hk_247) ?_
                                                    refine g_iload C dL_law_1639 1 rfl ?_
                                                    refine g_icmp_eq (tgt := 1646) C dL_law_1641 (by decide) (fun c_251 => ?_) (fun c_251 => ?_)
                                                    · replace h := it_t c_251 h
                                                      refine g_iload C dL_law_1646 1 rfl ?_
                                                      refine g_if_ne (tgt := 1663) C dL_law_1648 (by decide) (fun c_250 => ?_) (fun c_250 => ?_)
                                                      · replace h := it_f c_250 h
                                                        refine g_goto (tgt := 2281) C dL_law_1663 (by decide) ?_
                                                        refine g_iinc (q := 7) (v := v5 + (6 : Int32)) (lv' := [(5, .int (v5 + (6 : Int32))), (7, .int r_246), (6, .int r_244), (0, .ref b), (1, .ref (oa (gw Γ) 0)), (2, .ref (oa (gw Γ) 95)), (3, .ref (oa (gw Γ) 108)), (4, .ref (oa (gw Γ) 109))]) C dL_law_2281 rfl rfl (by decide) rfl ?_
                                                        refine g_goto (tgt := 28) C dL_law_2284 (by decide) ?_
                                                        refine g_sub [3, 4, 5, 6, 7, 0] rfl ?_
                                                        exact hrec (v5 + (6 : Int32)) m_247 _ (by omega) h
                                                      · replace h := it_t c_250 h
                                                        refine g_aload_n C dL_law_1651 5 rfl rfl ?_
                                                        refine g_iconst (v := (0 : Int32)) C dL_law_1652 (by decide) ?_
                                                        obtain ⟨g_248, h⟩ := gd_some h
                                                        refine g_lald C dL_law_1653 g_248 ?_
                                                        refine g_iload C dL_law_1654 0 rfl ?_
                                                        refine g_i2l C dL_law_1656 ?_
                                                        refine g_lcmp C dL_law_1657 ?_
                                                        refine g_if_eq (tgt := 1663) C dL_law_1658 (by decide) (fun c_249 => ?_) (fun c_249 => ?_)
                                                        · replace h := it_t c_249 h
                                                          refine g_goto (tgt := 2281) C dL_law_1663 (by decide) ?_
                                                          refine g_iinc (q := 7) (v := v5 + (6 : Int32)) (lv' := [(5, .int (v5 + (6 : Int32))), (7, .int r_246), (6, .int r_244), (0, .ref b), (1, .ref (oa (gw Γ) 0)), (2, .ref (oa (gw Γ) 95)), (3, .ref (oa (gw Γ) 108)), (4, .ref (oa (gw Γ) 109))]) C dL_law_2281 rfl rfl (by decide) rfl ?_
                                                          refine g_goto (tgt := 28) C dL_law_2284 (by decide) ?_
                                                          refine g_sub [3, 4, 5, 6, 7, 0] rfl ?_
                                                          exact hrec (v5 + (6 : Int32)) m_247 _ (by omega) h
                                                        · replace h := it_f c_249 h
                                                          cases h
                                                    · replace h := it_f c_251 h
                                                      cases h
                                                  · replace h := it_f c_252 h
                                                    by_cases c_263 : ((xs v5.toNatClampNeg) &&& (63 : Int32)) = (24 : Int32)
                                                    · replace h := it_t c_263 h
                                                      refine g_tin (tgt := 1666) (off := 1621) C dL_law_45 (by rw [c_263]; decide) (by rw [c_263]; decide) (by rw [c_263]; rfl) (by decide) ?_
                                                      refine g_aload_n C dL_law_1666 1 rfl rfl ?_
                                                      refine g_aload_n C dL_law_1667 0 rfl rfl ?_
                                                      refine g_iload C dL_law_1668 5 rfl ?_
                                                      refine g_iconst (v := (1 : Int32)) C dL_law_1670 (by decide) ?_
                                                      refine g_iadd C dL_law_1671 ?_
                                                      obtain ⟨g_253, h⟩ := gd_some h
                                                      refine g_sld C S dL_law_1672 g_253 ?_
                                                      refine g_aload_n C dL_law_1673 0 rfl rfl ?_
                                                      refine g_iload C dL_law_1674 5 rfl ?_
                                                      refine g_iconst (v := (2 : Int32)) C dL_law_1676 (by decide) ?_
                                                      refine g_iadd C dL_law_1677 ?_
                                                      obtain ⟨g_254, h⟩ := gd_some h
                                                      refine g_sld C S dL_law_1678 g_254 ?_
                                                      refine g_aload_n C dL_law_1679 3 rfl rfl ?_
                                                      obtain ⟨r_255, m_255, hk_255, h⟩ := b2_some h
                                                      refine g_wI (As := [.ref (oa (gw Γ) 0), .int (xs (v5 + (1 : Int32)).toNatClampNeg), .int (xs (v5 + (2 : Int32)).toNatClampNeg), .ref (oa (gw Γ) 108)]) (mc' := 4) C dL_law_1680 mf_L_tieRound k_1100 ⟨by decide, by decide⟩ rfl rfl (Nat.le_of_ble_eq_true rfl) (by omega) (c_L_tieRound N (gl Γ) C.2.2.2.2 (gw Γ) 0 (xs (v5 + (1 : Int32)).toNatClampNeg) (xs (v5 + (2 : Int32)).toNatClampNeg) 108 m _ hk_255) ?_
                                                      refine g_istore (lv' := [(6, .int r_255), (0, .ref b), (1, .ref (oa (gw Γ) 0)), (2, .ref (oa (gw Γ) 95)), (3, .ref (oa (gw Γ) 108)), (4, .ref (oa (gw Γ) 109)), (5, .int v5)]) C dL_law_1683 (by decide) rfl ?_
                                                      refine g_aload_n C dL_law_1685 3 rfl rfl ?_
                                                      refine g_aload_n C dL_law_1686 1 rfl rfl ?_
                                                      refine g_iload C dL_law_1687 6 rfl ?_
                                                      refine g_iconst (v := (1 : Int32)) C dL_law_1689 (by decide) ?_
                                                      refine g_iadd C dL_law_1690 ?_
                                                      refine g_sld C S dL_law_1691 g_253 ?_
                                                      refine g_aload_n C dL_law_1692 1 rfl rfl ?_
                                                      refine g_iload C dL_law_1693 6 rfl ?_
                                                      refine g_iconst (v := (2 : Int32)) C dL_law_1695 (by decide) ?_
                                                      refine g_iadd C dL_law_1696 ?_
                                                      refine g_sld C S dL_law_1697 g_254 ?_
                                                      obtain ⟨g_256, h⟩ := gd_some h
                                                      obtain ⟨r_257, m_257, hk_257, h⟩ := b2_some h
                                                      refine g_vI (As := [.int (xs (v5 + (1 : Int32)).toNatClampNeg), .int (xs (v5 + (2 : Int32)).toNatClampNeg)]) C dL_law_1698 mf_X10_tieRound k_1101 rfl (by decide) ⟨by decide, by decide⟩ rfl rfl (Nat.le_of_ble_eq_true rfl) (by omega) g_256 (c_X10_tieRound N (gl Γ) C.2.2.2.2 (gw Γ) 95 (xs (v5 + (1 : Int32)).toNatClampNeg) (xs (v5 + (2 : Int32)).toNatClampNeg) m_255 _ hk_257) ?_
                                                      refine g_istore (lv' := [(7, .int r_257), (6, .int r_255), (0, .ref b), (1, .ref (oa (gw Γ) 0)), (2, .ref (oa (gw Γ) 95)), (3, .ref (oa (gw Γ) 108)), (4, .ref (oa (gw Γ) 109)), (5, .int v5)]) C dL_law_1701 (by decide) rfl ?_
                                                      refine g_aload_n C dL_law_1703 4 rfl rfl ?_
                                                      obtain ⟨r_258, m_258, hk_258, h⟩ := b2_some h
                                                      refine g_vI (As := []) C dL_law_1704 mf_X10_thrown k_975 rfl (by decide) ⟨by decide, by decide⟩ rfl rfl (Nat.le_of_ble_eq_true rfl) (by omega) g_256 (c_X10_thrown N (gl Γ) C.2.2.2.2 (gw Γ) 95 m_257 _ hk_258) ?_
                                                      refine g_iload C dL_law_1707 1 rfl ?_
                                                      refine g_icmp_eq (tgt := 1714) C dL_law_1709 (by decide) (fun c_262 => ?_) (fun c_262 => ?_)
                                                      · replace h := it_t c_262 h
                                                        refine g_iload C dL_law_1714 1 rfl ?_
                                                        refine g_if_ne (tgt := 1731) C dL_law_1716 (by decide) (fun c_261 => ?_) (fun c_261 => ?_)
                                                        · replace h := it_f c_261 h
                                                          refine g_goto (tgt := 2281) C dL_law_1731 (by decide) ?_
                                                          refine g_iinc (q := 7) (v := v5 + (6 : Int32)) (lv' := [(5, .int (v5 + (6 : Int32))), (7, .int r_257), (6, .int r_255), (0, .ref b), (1, .ref (oa (gw Γ) 0)), (2, .ref (oa (gw Γ) 95)), (3, .ref (oa (gw Γ) 108)), (4, .ref (oa (gw Γ) 109))]) C dL_law_2281 rfl rfl (by decide) rfl ?_
                                                          refine g_goto (tgt := 28) C dL_law_2284 (by decide) ?_
                                                          refine g_sub [3, 4, 5, 6, 7, 0] rfl ?_
                                                          exact hrec (v5 + (6 : Int32)) m_258 _ (by omega) h
                                                        · replace h := it_t c_261 h
                                                          refine g_aload_n C dL_law_1719 5 rfl rfl ?_
                                                          refine g_iconst (v := (0 : Int32)) C dL_law_1720 (by decide) ?_
                                                          obtain ⟨g_259, h⟩ := gd_some h
                                                          refine g_lald C dL_law_1721 g_259 ?_
                                                          refine g_iload C dL_law_1722 0 rfl ?_
                                                          refine g_i2l C dL_law_1724 ?_
                                                          refine g_lcmp C dL_law_1725 ?_
                                                          refine g_if_eq (tgt := 1731) C dL_law_1726 (by decide) (fun c_260 => ?_) (fun c_260 => ?_)
                                                          · replace h := it_t c_260 h
                                                            refine g_goto (tgt := 2281) C dL_law_1731 (by decide) ?_
                                                            refine g_iinc (q := 7) (v := v5 + (6 : Int32)) (lv' := [(5, .int (v5 + (6 : Int32))), (7, .int r_257), (6, .int r_255), (0, .ref b), (1, .ref (oa (gw Γ) 0)), (2, .ref (oa (gw Γ) 95)), (3, .ref (oa (gw Γ) 108)), (4, .ref (oa (gw Γ) 109))]) C dL_law_2281 rfl rfl (by decide) rfl ?_
                                                            refine g_goto (tgt := 28) C dL_law_2284 (by decide) ?_
                                                            refine g_sub [3, 4, 5, 6, 7, 0] rfl ?_
                                                            exact hrec (v5 + (6 : Int32)) m_258 _ (by omega) h
                                                          · replace h := it_f c_260 h
                                                            cases h
                                                      · replace h := it_f c_262 h
                                                        cases h
                                                    · replace h := it_f c_263 h
                                                      by_cases c_273 : ((xs v5.toNatClampNeg) &&& (63 : Int32)) = (25 : Int32)
                                                      · replace h := it_t c_273 h
                                                        refine g_tin (tgt := 1734) (off := 1689) C dL_law_45 (by rw [c_273]; decide) (by rw [c_273]; decide) (by rw [c_273]; rfl) (by decide) ?_
                                                        refine g_aload_n C dL_law_1734 1 rfl rfl ?_
                                                        refine g_aload_n C dL_law_1735 0 rfl rfl ?_
                                                        refine g_iload C dL_law_1736 5 rfl ?_
                                                        refine g_iconst (v := (1 : Int32)) C dL_law_1738 (by decide) ?_
                                                        refine g_iadd C dL_law_1739 ?_
                                                        obtain ⟨g_264, h⟩ := gd_some h
                                                        refine g_sld C S dL_law_1740 g_264 ?_
                                                        refine g_aload_n C dL_law_1741 3 rfl rfl ?_
                                                        obtain ⟨r_265, m_265, hk_265, h⟩ := b2_some h
                                                        refine g_wI (As := [.ref (oa (gw Γ) 0), .int (xs (v5 + (1 : Int32)).toNatClampNeg), .ref (oa (gw Γ) 108)]) (mc' := 1) C dL_law_1742 mf_L_setLine k_1105 ⟨by decide, by decide⟩ rfl rfl (Nat.le_of_ble_eq_true rfl) (by omega) (c_L_setLine N (gl Γ) C.2.2.2.2 (gw Γ) 0 (xs (v5 + (1 : Int32)).toNatClampNeg) 108 m _ hk_265) ?_
                                                        refine g_istore (lv' := [(6, .int r_265), (0, .ref b), (1, .ref (oa (gw Γ) 0)), (2, .ref (oa (gw Γ) 95)), (3, .ref (oa (gw Γ) 108)), (4, .ref (oa (gw Γ) 109)), (5, .int v5)]) C dL_law_1745 (by decide) rfl ?_
                                                        refine g_aload_n C dL_law_1747 3 rfl rfl ?_
                                                        refine g_aload_n C dL_law_1748 1 rfl rfl ?_
                                                        refine g_iload C dL_law_1749 6 rfl ?_
                                                        refine g_iconst (v := (1 : Int32)) C dL_law_1751 (by decide) ?_
                                                        refine g_iadd C dL_law_1752 ?_
                                                        refine g_sld C S dL_law_1753 g_264 ?_
                                                        obtain ⟨g_266, h⟩ := gd_some h
                                                        obtain ⟨r_267, m_267, hk_267, h⟩ := b2_some h
                                                        refine g_vI (As := [.int (xs (v5 + (1 : Int32)).toNatClampNeg)]) C dL_law_1754 mf_X10_setLine k_1106 rfl (by decide) ⟨by decide, by decide⟩ rfl rfl (Nat.le_of_ble_eq_true rfl) (by omega) g_266 (c_X10_setLine N (gl Γ) C.2.2.2.2 (gw Γ) 95 (xs (v5 + (1 : Int32)).toNatClampNeg) m_265 _ hk_267) ?_
                                                        refine g_istore (lv' := [(7, .int r_267), (6, .int r_265), (0, .ref b), (1, .ref (oa (gw Γ) 0)), (2, .ref (oa (gw Γ) 95)), (3, .ref (oa (gw Γ) 108)), (4, .ref (oa (gw Γ) 109)), (5, .int v5)]) C dL_law_1757 (by decide) rfl ?_
                                                        refine g_aload_n C dL_law_1759 4 rfl rfl ?_
                                                        obtain ⟨r_268, m_268, hk_268, h⟩ := b2_some h
                                                        refine g_vI (As := []) C dL_law_1760 mf_X10_thrown k_975 rfl (by decide) ⟨by decide, by decide⟩ rfl rfl (Nat.le_of_ble_eq_true rfl) (by omega) g_266 (c_X10_thrown N (gl Γ) C.2.2.2.2 (gw Γ) 95 m_267 _ hk_268) ?_
                                                        refine g_iload C dL_law_1763 1 rfl ?_
                                                        refine g_icmp_eq (tgt := 1770) C dL_law_1765 (by decide) (fun c_272 => ?_) (fun c_272 => ?_)
                                                        · replace h := it_t c_272 h
                                                          refine g_iload C dL_law_1770 1 rfl ?_
                                                          refine g_if_ne (tgt := 1787) C dL_law_1772 (by decide) (fun c_271 => ?_) (fun c_271 => ?_)
                                                          · replace h := it_f c_271 h
                                                            refine g_goto (tgt := 2281) C dL_law_1787 (by decide) ?_
                                                            refine g_iinc (q := 7) (v := v5 + (6 : Int32)) (lv' := [(5, .int (v5 + (6 : Int32))), (7, .int r_267), (6, .int r_265), (0, .ref b), (1, .ref (oa (gw Γ) 0)), (2, .ref (oa (gw Γ) 95)), (3, .ref (oa (gw Γ) 108)), (4, .ref (oa (gw Γ) 109))]) C dL_law_2281 rfl rfl (by decide) rfl ?_
                                                            refine g_goto (tgt := 28) C dL_law_2284 (by decide) ?_
                                                            refine g_sub [3, 4, 5, 6, 7, 0] rfl ?_
                                                            exact hrec (v5 + (6 : Int32)) m_268 _ (by omega) h
                                                          · replace h := it_t c_271 h
                                                            refine g_aload_n C dL_law_1775 5 rfl rfl ?_
                                                            refine g_iconst (v := (0 : Int32)) C dL_law_1776 (by decide) ?_
                                                            obtain ⟨g_269, h⟩ := gd_some h
                                                            refine g_lald C dL_law_1777 g_269 ?_
                                                            refine g_iload C dL_law_1778 0 rfl ?_
                                                            refine g_i2l C dL_law_1780 ?_
                                                            refine g_lcmp C dL_law_1781 ?_
                                                            refine g_if_eq (tgt := 1787) C dL_law_1782 (by decide) (fun c_270 => ?_) (fun c_270 => ?_)
                                                            · replace h := it_t c_270 h
                                                              refine g_goto (tgt := 2281) C dL_law_1787 (by decide) ?_
                                                              refine g_iinc (q := 7) (v := v5 + (6 : Int32)) (lv' := [(5, .int (v5 + (6 : Int32))), (7, .int r_267), (6, .int r_265), (0, .ref b), (1, .ref (oa (gw Γ) 0)), (2, .ref (oa (gw Γ) 95)), (3, .ref (oa (gw Γ) 108)), (4, .ref (oa (gw Γ) 109))]) C dL_law_2281 rfl rfl (by decide) rfl ?_
                                                              refine g_goto (tgt := 28) C dL_law_2284 (by decide) ?_
                                                              refine g_sub [3, 4, 5, 6, 7, 0] rfl ?_
                                                              exact hrec (v5 + (6 : Int32)) m_268 _ (by omega) h
                                                            · replace h := it_f c_270 h
                                                              cases h
                                                        · replace h := it_f c_272 h
                                                          cases h
                                                      · replace h := it_f c_273 h
                                                        by_cases c_284 : ((xs v5.toNatClampNeg) &&& (63 : Int32)) = (26 : Int32)
                                                        · replace h := it_t c_284 h
                                                          refine g_tin (tgt := 1790) (off := 1745) C dL_law_45 (by rw [c_284]; decide) (by rw [c_284]; decide) (by rw [c_284]; rfl) (by decide) ?_
                                                          refine g_aload_n C dL_law_1790 1 rfl rfl ?_
                                                          refine g_aload_n C dL_law_1791 0 rfl rfl ?_
                                                          refine g_iload C dL_law_1792 5 rfl ?_
                                                          refine g_iconst (v := (1 : Int32)) C dL_law_1794 (by decide) ?_
                                                          refine g_iadd C dL_law_1795 ?_
                                                          obtain ⟨g_274, h⟩ := gd_some h
                                                          refine g_sld C S dL_law_1796 g_274 ?_
                                                          refine g_aload_n C dL_law_1797 0 rfl rfl ?_
                                                          refine g_iload C dL_law_1798 5 rfl ?_
                                                          refine g_iconst (v := (2 : Int32)) C dL_law_1800 (by decide) ?_
                                                          refine g_iadd C dL_law_1801 ?_
                                                          obtain ⟨g_275, h⟩ := gd_some h
                                                          refine g_sld C S dL_law_1802 g_275 ?_
                                                          refine g_aload_n C dL_law_1803 3 rfl rfl ?_
                                                          obtain ⟨r_276, m_276, hk_276, h⟩ := b2_some h
                                                          refine g_wI (As := [.ref (oa (gw Γ) 0), .int (xs (v5 + (1 : Int32)).toNatClampNeg), .int (xs (v5 + (2 : Int32)).toNatClampNeg), .ref (oa (gw Γ) 108)]) (mc' := 2) C dL_law_1804 mf_L_amount k_1110 ⟨by decide, by decide⟩ rfl rfl (Nat.le_of_ble_eq_true rfl) (by omega) (c_L_amount N (gl Γ) C.2.2.2.2 (gw Γ) 0 (xs (v5 + (1 : Int32)).toNatClampNeg) (xs (v5 + (2 : Int32)).toNatClampNeg) 108 m _ hk_276) ?_
                                                          refine g_istore (lv' := [(6, .int r_276), (0, .ref b), (1, .ref (oa (gw Γ) 0)), (2, .ref (oa (gw Γ) 95)), (3, .ref (oa (gw Γ) 108)), (4, .ref (oa (gw Γ) 109)), (5, .int v5)]) C dL_law_1807 (by decide) rfl ?_
                                                          refine g_aload_n C dL_law_1809 3 rfl rfl ?_
                                                          refine g_aload_n C dL_law_1810 1 rfl rfl ?_
                                                          refine g_iload C dL_law_1811 6 rfl ?_
                                                          refine g_iconst (v := (1 : Int32)) C dL_law_1813 (by decide) ?_
                                                          refine g_iadd C dL_law_1814 ?_
                                                          refine g_sld C S dL_law_1815 g_274 ?_
                                                          refine g_aload_n C dL_law_1816 1 rfl rfl ?_
                                                          refine g_iload C dL_law_1817 6 rfl ?_
                                                          refine g_iconst (v := (2 : Int32)) C dL_law_1819 (by decide) ?_
                                                          refine g_iadd C dL_law_1820 ?_
                                                          refine g_sld C S dL_law_1821 g_275 ?_
                                                          obtain ⟨g_277, h⟩ := gd_some h
                                                          obtain ⟨r_278, m_278, hk_278, h⟩ := b2_some h
                                                          refine g_vI (As := [.int (xs (v5 + (1 : Int32)).toNatClampNeg), .int (xs (v5 + (2 : Int32)).toNatClampNeg)]) C dL_law_1822 mf_X10_amount k_1111 rfl (by decide) ⟨by decide, by decide⟩ rfl rfl (Nat.le_of_ble_eq_true rfl) (by omega) g_277 (c_X10_amount N (gl Γ) C.2.2.2.2 (gw Γ) 95 (xs (v5 + (1 : Int32)).toNatClampNeg) (xs (v5 + (2 : Int32)).toNatClampNeg) m_276 _ hk_278) ?_
                                                          refine g_istore (lv' := [(7, .int r_278), (6, .int r_276), (0, .ref b), (1, .ref (oa (gw Γ) 0)), (2, .ref (oa (gw Γ) 95)), (3, .ref (oa (gw Γ) 108)), (4, .ref (oa (gw Γ) 109)), (5, .int v5)]) C dL_law_1825 (by decide) rfl ?_
                                                          refine g_aload_n C dL_law_1827 4 rfl rfl ?_
                                                          obtain ⟨r_279, m_279, hk_279, h⟩ := b2_some h
                                                          refine g_vI (As := []) C dL_law_1828 mf_X10_thrown k_975 rfl (by decide) ⟨by decide, by decide⟩ rfl rfl (Nat.le_of_ble_eq_true rfl) (by omega) g_277 (c_X10_thrown N (gl Γ) C.2.2.2.2 (gw Γ) 95 m_278 _ hk_279) ?_
                                                          refine g_iload C dL_law_1831 1 rfl ?_
                                                          refine g_icmp_eq (tgt := 1838) C dL_law_1833 (by decide) (fun c_283 => ?_) (fun c_283 => ?_)
                                                          · replace h := it_t c_283 h
                                                            refine g_iload C dL_law_1838 1 rfl ?_
                                                            refine g_if_ne (tgt := 1855) C dL_law_1840 (by decide) (fun c_282 => ?_) (fun c_282 => ?_)
                                                            · replace h := it_f c_282 h
                                                              refine g_goto (tgt := 2281) C dL_law_1855 (by decide) ?_
                                                              refine g_iinc (q := 7) (v := v5 + (6 : Int32)) (lv' := [(5, .int (v5 + (6 : Int32))), (7, .int r_278), (6, .int r_276), (0, .ref b), (1, .ref (oa (gw Γ) 0)), (2, .ref (oa (gw Γ) 95)), (3, .ref (oa (gw Γ) 108)), (4, .ref (oa (gw Γ) 109))]) C dL_law_2281 rfl rfl (by decide) rfl ?_
                                                              refine g_goto (tgt := 28) C dL_law_2284 (by decide) ?_
                                                              refine g_sub [3, 4, 5, 6, 7, 0] rfl ?_
                                                              exact hrec (v5 + (6 : Int32)) m_279 _ (by omega) h
                                                            · replace h := it_t c_282 h
                                                              refine g_aload_n C dL_law_1843 5 rfl rfl ?_
                                                              refine g_iconst (v := (0 : Int32)) C dL_law_1844 (by decide) ?_
                                                              obtain ⟨g_280, h⟩ := gd_some h
                                                              refine g_lald C dL_law_1845 g_280 ?_
                                                              refine g_iload C dL_law_1846 0 rfl ?_
                                                              refine g_i2l C dL_law_1848 ?_
                                                              refine g_lcmp C dL_law_1849 ?_
                                                              refine g_if_eq (tgt := 1855) C dL_law_1850 (by decide) (fun c_281 => ?_) (fun c_281 => ?_)
                                                              · replace h := it_t c_281 h
                                                                refine g_goto (tgt := 2281) C dL_law_1855 (by decide) ?_
                                                                refine g_iinc (q := 7) (v := v5 + (6 : Int32)) (lv' := [(5, .int (v5 + (6 : Int32))), (7, .int r_278), (6, .int r_276), (0, .ref b), (1, .ref (oa (gw Γ) 0)), (2, .ref (oa (gw Γ) 95)), (3, .ref (oa (gw Γ) 108)), (4, .ref (oa (gw Γ) 109))]) C dL_law_2281 rfl rfl (by decide) rfl ?_
                                                                refine g_goto (tgt := 28) C dL_law_2284 (by decide) ?_
                                                                refine g_sub [3, 4, 5, 6, 7, 0] rfl ?_
                                                                exact hrec (v5 + (6 : Int32)) m_279 _ (by omega) h
                                                              · replace h := it_f c_281 h
                                                                cases h
                                                          · replace h := it_f c_283 h
                                                            cases h
                                                        · replace h := it_f c_284 h
                                                          by_cases c_295 : ((xs v5.toNatClampNeg) &&& (63 : Int32)) = (27 : Int32)
                                                          · replace h := it_t c_295 h
                                                            refine g_tin (tgt := 1858) (off := 1813) C dL_law_45 (by rw [c_295]; decide) (by rw [c_295]; decide) (by rw [c_295]; rfl) (by decide) ?_
                                                            refine g_aload_n C dL_law_1858 1 rfl rfl ?_
                                                            refine g_aload_n C dL_law_1859 0 rfl rfl ?_
                                                            refine g_iload C dL_law_1860 5 rfl ?_
                                                            refine g_iconst (v := (1 : Int32)) C dL_law_1862 (by decide) ?_
                                                            refine g_iadd C dL_law_1863 ?_
                                                            obtain ⟨g_285, h⟩ := gd_some h
                                                            refine g_sld C S dL_law_1864 g_285 ?_
                                                            refine g_aload_n C dL_law_1865 0 rfl rfl ?_
                                                            refine g_iload C dL_law_1866 5 rfl ?_
                                                            refine g_iconst (v := (2 : Int32)) C dL_law_1868 (by decide) ?_
                                                            refine g_iadd C dL_law_1869 ?_
                                                            obtain ⟨g_286, h⟩ := gd_some h
                                                            refine g_sld C S dL_law_1870 g_286 ?_
                                                            refine g_aload_n C dL_law_1871 3 rfl rfl ?_
                                                            obtain ⟨r_287, m_287, hk_287, h⟩ := b2_some h
                                                            refine g_wI (As := [.ref (oa (gw Γ) 0), .int (xs (v5 + (1 : Int32)).toNatClampNeg), .int (xs (v5 + (2 : Int32)).toNatClampNeg), .ref (oa (gw Γ) 108)]) (mc' := 2) C dL_law_1872 mf_L_left k_1115 ⟨by decide, by decide⟩ rfl rfl (Nat.le_of_ble_eq_true rfl) (by omega) (c_L_left N (gl Γ) C.2.2.2.2 (gw Γ) 0 (xs (v5 + (1 : Int32)).toNatClampNeg) (xs (v5 + (2 : Int32)).toNatClampNeg) 108 m _ hk_287) ?_
                                                            refine g_istore (lv' := [(6, .int r_287), (0, .ref b), (1, .ref (oa (gw Γ) 0)), (2, .ref (oa (gw Γ) 95)), (3, .ref (oa (gw Γ) 108)), (4, .ref (oa (gw Γ) 109)), (5, .int v5)]) C dL_law_1875 (by decide) rfl ?_
                                                            refine g_aload_n C dL_law_1877 3 rfl rfl ?_
                                                            refine g_aload_n C dL_law_1878 1 rfl rfl ?_
                                                            refine g_iload C dL_law_1879 6 rfl ?_
                                                            refine g_iconst (v := (1 : Int32)) C dL_law_1881 (by decide) ?_
                                                            refine g_iadd C dL_law_1882 ?_
                                                            refine g_sld C S dL_law_1883 g_285 ?_
                                                            refine g_aload_n C dL_law_1884 1 rfl rfl ?_
                                                            refine g_iload C dL_law_1885 6 rfl ?_
                                                            refine g_iconst (v := (2 : Int32)) C dL_law_1887 (by decide) ?_
                                                            refine g_iadd C dL_law_1888 ?_
                                                            refine g_sld C S dL_law_1889 g_286 ?_
                                                            obtain ⟨g_288, h⟩ := gd_some h
                                                            obtain ⟨r_289, m_289, hk_289, h⟩ := b2_some h
                                                            refine g_vI (As := [.int (xs (v5 + (1 : Int32)).toNatClampNeg), .int (xs (v5 + (2 : Int32)).toNatClampNeg)]) C dL_law_1890 mf_X10_left k_1116 rfl (by decide) ⟨by decide, by decide⟩ rfl rfl (Nat.le_of_ble_eq_true rfl) (by omega) g_288 (c_X10_left N (gl Γ) C.2.2.2.2 (gw Γ) 95 (xs (v5 + (1 : Int32)).toNatClampNeg) (xs (v5 + (2 : Int32)).toNatClampNeg) m_287 _ hk_289) ?_
                                                            refine g_istore (lv' := [(7, .int r_289), (6, .int r_287), (0, .ref b), (1, .ref (oa (gw Γ) 0)), (2, .ref (oa (gw Γ) 95)), (3, .ref (oa (gw Γ) 108)), (4, .ref (oa (gw Γ) 109)), (5, .int v5)]) C dL_law_1893 (by decide) rfl ?_
                                                            refine g_aload_n C dL_law_1895 4 rfl rfl ?_
                                                            obtain ⟨r_290, m_290, hk_290, h⟩ := b2_some h
                                                            refine g_vI (As := []) C dL_law_1896 mf_X10_thrown k_975 rfl (by decide) ⟨by decide, by decide⟩ rfl rfl (Nat.le_of_ble_eq_true rfl) (by omega) g_288 (c_X10_thrown N (gl Γ) C.2.2.2.2 (gw Γ) 95 m_289 _ hk_290) ?_
                                                            refine g_iload C dL_law_1899 1 rfl ?_
                                                            refine g_icmp_eq (tgt := 1906) C dL_law_1901 (by decide) (fun c_294 => ?_) (fun c_294 => ?_)
                                                            · replace h := it_t c_294 h
                                                              refine g_iload C dL_law_1906 1 rfl ?_
                                                              refine g_if_ne (tgt := 1923) C dL_law_1908 (by decide) (fun c_293 => ?_) (fun c_293 => ?_)
                                                              · replace h := it_f c_293 h
                                                                refine g_goto (tgt := 2281) C dL_law_1923 (by decide) ?_
                                                                refine g_iinc (q := 7) (v := v5 + (6 : Int32)) (lv' := [(5, .int (v5 + (6 : Int32))), (7, .int r_289), (6, .int r_287), (0, .ref b), (1, .ref (oa (gw Γ) 0)), (2, .ref (oa (gw Γ) 95)), (3, .ref (oa (gw Γ) 108)), (4, .ref (oa (gw Γ) 109))]) C dL_law_2281 rfl rfl (by decide) rfl ?_
                                                                refine g_goto (tgt := 28) C dL_law_2284 (by decide) ?_
                                                                refine g_sub [3, 4, 5, 6, 7, 0] rfl ?_
                                                                exact hrec (v5 + (6 : Int32)) m_290 _ (by omega) h
                                                              · replace h := it_t c_293 h
                                                                refine g_aload_n C dL_law_1911 5 rfl rfl ?_
                                                                refine g_iconst (v := (0 : Int32)) C dL_law_1912 (by decide) ?_
                                                                obtain ⟨g_291, h⟩ := gd_some h
                                                                refine g_lald C dL_law_1913 g_291 ?_
                                                                refine g_iload C dL_law_1914 0 rfl ?_
                                                                refine g_i2l C dL_law_1916 ?_
                                                                refine g_lcmp C dL_law_1917 ?_
                                                                refine g_if_eq (tgt := 1923) C dL_law_1918 (by decide) (fun c_292 => ?_) (fun c_292 => ?_)
                                                                · replace h := it_t c_292 h
                                                                  refine g_goto (tgt := 2281) C dL_law_1923 (by decide) ?_
                                                                  refine g_iinc (q := 7) (v := v5 + (6 : Int32)) (lv' := [(5, .int (v5 + (6 : Int32))), (7, .int r_289), (6, .int r_287), (0, .ref b), (1, .ref (oa (gw Γ) 0)), (2, .ref (oa (gw Γ) 95)), (3, .ref (oa (gw Γ) 108)), (4, .ref (oa (gw Γ) 109))]) C dL_law_2281 rfl rfl (by decide) rfl ?_
                                                                  refine g_goto (tgt := 28) C dL_law_2284 (by decide) ?_
                                                                  refine g_sub [3, 4, 5, 6, 7, 0] rfl ?_
                                                                  exact hrec (v5 + (6 : Int32)) m_290 _ (by omega) h
                                                                · replace h := it_f c_292 h
                                                                  cases h
                                                            · replace h := it_f c_294 h
                                                              cases h
                                                          · replace h := it_f c_295 h
                                                            by_cases c_305 : ((xs v5.toNatClampNeg) &&& (63 : Int32)) = (28 : Int32)
                                                            · replace h := it_t c_305 h
                                                              refine g_tin (tgt := 1926) (off := 1881) C dL_law_45 (by rw [c_305]; decide) (by rw [c_305]; decide) (by rw [c_305]; rfl) (by decide) ?_
                                                              refine g_aload_n C dL_law_1926 1 rfl rfl ?_
                                                              refine g_aload_n C dL_law_1927 0 rfl rfl ?_
                                                              refine g_iload C dL_law_1928 5 rfl ?_
                                                              refine g_iconst (v := (1 : Int32)) C dL_law_1930 (by decide) ?_
                                                              refine g_iadd C dL_law_1931 ?_
                                                              obtain ⟨g_296, h⟩ := gd_some h
                                                              refine g_sld C S dL_law_1932 g_296 ?_
                                                              refine g_aload_n C dL_law_1933 3 rfl rfl ?_
                                                              obtain ⟨r_297, m_297, hk_297, h⟩ := b2_some h
                                                              refine g_wI (As := [.ref (oa (gw Γ) 0), .int (xs (v5 + (1 : Int32)).toNatClampNeg), .ref (oa (gw Γ) 108)]) (mc' := 1) C dL_law_1934 mf_L_poolLeft k_1120 ⟨by decide, by decide⟩ rfl rfl (Nat.le_of_ble_eq_true rfl) (by omega) (c_L_poolLeft N (gl Γ) C.2.2.2.2 (gw Γ) 0 (xs (v5 + (1 : Int32)).toNatClampNeg) 108 m _ hk_297) ?_
                                                              refine g_istore (lv' := [(6, .int r_297), (0, .ref b), (1, .ref (oa (gw Γ) 0)), (2, .ref (oa (gw Γ) 95)), (3, .ref (oa (gw Γ) 108)), (4, .ref (oa (gw Γ) 109)), (5, .int v5)]) C dL_law_1937 (by decide) rfl ?_
                                                              refine g_aload_n C dL_law_1939 3 rfl rfl ?_
                                                              refine g_aload_n C dL_law_1940 1 rfl rfl ?_
                                                              refine g_iload C dL_law_1941 6 rfl ?_
                                                              refine g_iconst (v := (1 : Int32)) C dL_law_1943 (by decide) ?_
                                                              refine g_iadd C dL_law_1944 ?_
                                                              refine g_sld C S dL_law_1945 g_296 ?_
                                                              obtain ⟨g_298, h⟩ := gd_some h
                                                              obtain ⟨r_299, m_299, hk_299, h⟩ := b2_some h
                                                              refine g_vI (As := [.int (xs (v5 + (1 : Int32)).toNatClampNeg)]) C dL_law_1946 mf_X10_poolLeft k_1121 rfl (by decide) ⟨by decide, by decide⟩ rfl rfl (Nat.le_of_ble_eq_true rfl) (by omega) g_298 (c_X10_poolLeft N (gl Γ) C.2.2.2.2 (gw Γ) 95 (xs (v5 + (1 : Int32)).toNatClampNeg) m_297 _ hk_299) ?_
                                                              refine g_istore (lv' := [(7, .int r_299), (6, .int r_297), (0, .ref b), (1, .ref (oa (gw Γ) 0)), (2, .ref (oa (gw Γ) 95)), (3, .ref (oa (gw Γ) 108)), (4, .ref (oa (gw Γ) 109)), (5, .int v5)]) C dL_law_1949 (by decide) rfl ?_
                                                              refine g_aload_n C dL_law_1951 4 rfl rfl ?_
                                                              obtain ⟨r_300, m_300, hk_300, h⟩ := b2_some h
                                                              refine g_vI (As := []) C dL_law_1952 mf_X10_thrown k_975 rfl (by decide) ⟨by decide, by decide⟩ rfl rfl (Nat.le_of_ble_eq_true rfl) (by omega) g_298 (c_X10_thrown N (gl Γ) C.2.2.2.2 (gw Γ) 95 m_299 _ hk_300) ?_
                                                              refine g_iload C dL_law_1955 1 rfl ?_
                                                              refine g_icmp_eq (tgt := 1962) C dL_law_1957 (by decide) (fun c_304 => ?_) (fun c_304 => ?_)
                                                              · replace h := it_t c_304 h
                                                                refine g_iload C dL_law_1962 1 rfl ?_
                                                                refine g_if_ne (tgt := 1979) C dL_law_1964 (by decide) (fun c_303 => ?_) (fun c_303 => ?_)
                                                                · replace h := it_f c_303 h
                                                                  refine g_goto (tgt := 2281) C dL_law_1979 (by decide) ?_
                                                                  refine g_iinc (q := 7) (v := v5 + (6 : Int32)) (lv' := [(5, .int (v5 + (6 : Int32))), (7, .int r_299), (6, .int r_297), (0, .ref b), (1, .ref (oa (gw Γ) 0)), (2, .ref (oa (gw Γ) 95)), (3, .ref (oa (gw Γ) 108)), (4, .ref (oa (gw Γ) 109))]) C dL_law_2281 rfl rfl (by decide) rfl ?_
                                                                  refine g_goto (tgt := 28) C dL_law_2284 (by decide) ?_
                                                                  refine g_sub [3, 4, 5, 6, 7, 0] rfl ?_
                                                                  exact hrec (v5 + (6 : Int32)) m_300 _ (by omega) h
                                                                · replace h := it_t c_303 h
                                                                  refine g_aload_n C dL_law_1967 5 rfl rfl ?_
                                                                  refine g_iconst (v := (0 : Int32)) C dL_law_1968 (by decide) ?_
                                                                  obtain ⟨g_301, h⟩ := gd_some h
                                                                  refine g_lald C dL_law_1969 g_301 ?_
                                                                  refine g_iload C dL_law_1970 0 rfl ?_
                                                                  refine g_i2l C dL_law_1972 ?_
                                                                  refine g_lcmp C dL_law_1973 ?_
                                                                  refine g_if_eq (tgt := 1979) C dL_law_1974 (by decide) (fun c_302 => ?_) (fun c_302 => ?_)
                                                                  · replace h := it_t c_302 h
                                                                    refine g_goto (tgt := 2281) C dL_law_1979 (by decide) ?_
                                                                    refine g_iinc (q := 7) (v := v5 + (6 : Int32)) (lv' := [(5, .int (v5 + (6 : Int32))), (7, .int r_299), (6, .int r_297), (0, .ref b), (1, .ref (oa (gw Γ) 0)), (2, .ref (oa (gw Γ) 95)), (3, .ref (oa (gw Γ) 108)), (4, .ref (oa (gw Γ) 109))]) C dL_law_2281 rfl rfl (by decide) rfl ?_
                                                                    refine g_goto (tgt := 28) C dL_law_2284 (by decide) ?_
                                                                    refine g_sub [3, 4, 5, 6, 7, 0] rfl ?_
                                                                    exact hrec (v5 + (6 : Int32)) m_300 _ (by omega) h
                                                                  · replace h := it_f c_302 h
                                                                    cases h
                                                              · replace h := it_f c_304 h
                                                                cases h
                                                            · replace h := it_f c_305 h
                                                              by_cases c_315 : ((xs v5.toNatClampNeg) &&& (63 : Int32)) = (29 : Int32)
                                                              · replace h := it_t c_315 h
                                                                refine g_tin (tgt := 1982) (off := 1937) C dL_law_45 (by rw [c_315]; decide) (by rw [c_315]; decide) (by rw [c_315]; rfl) (by decide) ?_
                                                                refine g_aload_n C dL_law_1982 1 rfl rfl ?_
                                                                refine g_aload_n C dL_law_1983 0 rfl rfl ?_
                                                                refine g_iload C dL_law_1984 5 rfl ?_
                                                                refine g_iconst (v := (1 : Int32)) C dL_law_1986 (by decide) ?_
                                                                refine g_iadd C dL_law_1987 ?_
                                                                obtain ⟨g_306, h⟩ := gd_some h
                                                                refine g_sld C S dL_law_1988 g_306 ?_
                                                                refine g_aload_n C dL_law_1989 3 rfl rfl ?_
                                                                obtain ⟨r_307, m_307, hk_307, h⟩ := b2_some h
                                                                refine g_wI (As := [.ref (oa (gw Γ) 0), .int (xs (v5 + (1 : Int32)).toNatClampNeg), .ref (oa (gw Γ) 108)]) (mc' := 1) C dL_law_1990 mf_L_funded k_1125 ⟨by decide, by decide⟩ rfl rfl (Nat.le_of_ble_eq_true rfl) (by omega) (c_L_funded N (gl Γ) C.2.2.2.2 (gw Γ) 0 (xs (v5 + (1 : Int32)).toNatClampNeg) 108 m _ hk_307) ?_
                                                                refine g_istore (lv' := [(6, .int r_307), (0, .ref b), (1, .ref (oa (gw Γ) 0)), (2, .ref (oa (gw Γ) 95)), (3, .ref (oa (gw Γ) 108)), (4, .ref (oa (gw Γ) 109)), (5, .int v5)]) C dL_law_1993 (by decide) rfl ?_
                                                                refine g_aload_n C dL_law_1995 3 rfl rfl ?_
                                                                refine g_aload_n C dL_law_1996 1 rfl rfl ?_
                                                                refine g_iload C dL_law_1997 6 rfl ?_
                                                                refine g_iconst (v := (1 : Int32)) C dL_law_1999 (by decide) ?_
                                                                refine g_iadd C dL_law_2000 ?_
                                                                refine g_sld C S dL_law_2001 g_306 ?_
                                                                obtain ⟨g_308, h⟩ := gd_some h
                                                                obtain ⟨r_309, m_309, hk_309, h⟩ := b2_some h
                                                                refine g_vI (As := [.int (xs (v5 + (1 : Int32)).toNatClampNeg)]) C dL_law_2002 mf_X10_funded k_1126 rfl (by decide) ⟨by decide, by decide⟩ rfl rfl (Nat.le_of_ble_eq_true rfl) (by omega) g_308 (c_X10_funded N (gl Γ) C.2.2.2.2 (gw Γ) 95 (xs (v5 + (1 : Int32)).toNatClampNeg) m_307 _ hk_309) ?_
                                                                refine g_istore (lv' := [(7, .int r_309), (6, .int r_307), (0, .ref b), (1, .ref (oa (gw Γ) 0)), (2, .ref (oa (gw Γ) 95)), (3, .ref (oa (gw Γ) 108)), (4, .ref (oa (gw Γ) 109)), (5, .int v5)]) C dL_law_2005 (by decide) rfl ?_
                                                                refine g_aload_n C dL_law_2007 4 rfl rfl ?_
                                                                obtain ⟨r_310, m_310, hk_310, h⟩ := b2_some h
                                                                refine g_vI (As := []) C dL_law_2008 mf_X10_thrown k_975 rfl (by decide) ⟨by decide, by decide⟩ rfl rfl (Nat.le_of_ble_eq_true rfl) (by omega) g_308 (c_X10_thrown N (gl Γ) C.2.2.2.2 (gw Γ) 95 m_309 _ hk_310) ?_
                                                                refine g_iload C dL_law_2011 1 rfl ?_
                                                                refine g_icmp_eq (tgt := 2018) C dL_law_2013 (by decide) (fun c_314 => ?_) (fun c_314 => ?_)
                                                                · replace h := it_t c_314 h
                                                                  refine g_iload C dL_law_2018 1 rfl ?_
                                                                  refine g_if_ne (tgt := 2035) C dL_law_2020 (by decide) (fun c_313 => ?_) (fun c_313 => ?_)
                                                                  · replace h := it_f c_313 h
                                                                    refine g_goto (tgt := 2281) C dL_law_2035 (by decide) ?_
                                                                    refine g_iinc (q := 7) (v := v5 + (6 : Int32)) (lv' := [(5, .int (v5 + (6 : Int32))), (7, .int r_309), (6, .int r_307), (0, .ref b), (1, .ref (oa (gw Γ) 0)), (2, .ref (oa (gw Γ) 95)), (3, .ref (oa (gw Γ) 108)), (4, .ref (oa (gw Γ) 109))]) C dL_law_2281 rfl rfl (by decide) rfl ?_
                                                                    refine g_goto (tgt := 28) C dL_law_2284 (by decide) ?_
                                                                    refine g_sub [3, 4, 5, 6, 7, 0] rfl ?_
                                                                    exact hrec (v5 + (6 : Int32)) m_310 _ (by omega) h
                                                                  · replace h := it_t c_313 h
                                                                    refine g_aload_n C dL_law_2023 5 rfl rfl ?_
                                                                    refine g_iconst (v := (0 : Int32)) C dL_law_2024 (by decide) ?_
                                                                    obtain ⟨g_311, h⟩ := gd_some h
                                                                    refine g_lald C dL_law_2025 g_311 ?_
                                                                    refine g_iload C dL_law_2026 0 rfl ?_
                                                                    refine g_i2l C dL_law_2028 ?_
                                                                    refine g_lcmp C dL_law_2029 ?_
                                                                    refine g_if_eq (tgt := 2035) C dL_law_2030 (by decide) (fun c_312 => ?_) (fun c_312 => ?_)
                                                                    · replace h := it_t c_312 h
                                                                      refine g_goto (tgt := 2281) C dL_law_2035 (by decide) ?_
                                                                      refine g_iinc (q := 7) (v := v5 + (6 : Int32)) (lv' := [(5, .int (v5 + (6 : Int32))), (7, .int r_309), (6, .int r_307), (0, .ref b), (1, .ref (oa (gw Γ) 0)), (2, .ref (oa (gw Γ) 95)), (3, .ref (oa (gw Γ) 108)), (4, .ref (oa (gw Γ) 109))]) C dL_law_2281 rfl rfl (by decide) rfl ?_
                                                                      refine g_goto (tgt := 28) C dL_law_2284 (by decide) ?_
                                                                      refine g_sub [3, 4, 5, 6, 7, 0] rfl ?_
                                                                      exact hrec (v5 + (6 : Int32)) m_310 _ (by omega) h
                                                                    · replace h := it_f c_312 h
                                                                      cases h
                                                                · replace h := it_f c_314 h
                                                                  cases h
                                                              · replace h := it_f c_315 h
                                                                by_cases c_325 : ((xs v5.toNatClampNeg) &&& (63 : Int32)) = (30 : Int32)
                                                                · replace h := it_t c_325 h
                                                                  refine g_tin (tgt := 2038) (off := 1993) C dL_law_45 (by rw [c_325]; decide) (by rw [c_325]; decide) (by rw [c_325]; rfl) (by decide) ?_
                                                                  refine g_aload_n C dL_law_2038 1 rfl rfl ?_
                                                                  refine g_aload_n C dL_law_2039 0 rfl rfl ?_
                                                                  refine g_iload C dL_law_2040 5 rfl ?_
                                                                  refine g_iconst (v := (1 : Int32)) C dL_law_2042 (by decide) ?_
                                                                  refine g_iadd C dL_law_2043 ?_
                                                                  obtain ⟨g_316, h⟩ := gd_some h
                                                                  refine g_sld C S dL_law_2044 g_316 ?_
                                                                  refine g_aload_n C dL_law_2045 3 rfl rfl ?_
                                                                  obtain ⟨r_317, m_317, hk_317, h⟩ := b2_some h
                                                                  refine g_wI (As := [.ref (oa (gw Γ) 0), .int (xs (v5 + (1 : Int32)).toNatClampNeg), .ref (oa (gw Γ) 108)]) (mc' := 1) C dL_law_2046 mf_L_bestSum k_1130 ⟨by decide, by decide⟩ rfl rfl (Nat.le_of_ble_eq_true rfl) (by omega) (c_L_bestSum N (gl Γ) C.2.2.2.2 (gw Γ) 0 (xs (v5 + (1 : Int32)).toNatClampNeg) 108 m _ hk_317) ?_
                                                                  refine g_istore (lv' := [(6, .int r_317), (0, .ref b), (1, .ref (oa (gw Γ) 0)), (2, .ref (oa (gw Γ) 95)), (3, .ref (oa (gw Γ) 108)), (4, .ref (oa (gw Γ) 109)), (5, .int v5)]) C dL_law_2049 (by decide) rfl ?_
                                                                  refine g_aload_n C dL_law_2051 3 rfl rfl ?_
                                                                  refine g_aload_n C dL_law_2052 1 rfl rfl ?_
                                                                  refine g_iload C dL_law_2053 6 rfl ?_
                                                                  refine g_iconst (v := (1 : Int32)) C dL_law_2055 (by decide) ?_
                                                                  refine g_iadd C dL_law_2056 ?_
                                                                  refine g_sld C S dL_law_2057 g_316 ?_
                                                                  obtain ⟨g_318, h⟩ := gd_some h
                                                                  obtain ⟨r_319, m_319, hk_319, h⟩ := b2_some h
                                                                  refine g_vI (As := [.int (xs (v5 + (1 : Int32)).toNatClampNeg)]) C dL_law_2058 mf_X10_bestSum k_1131 rfl (by decide) ⟨by decide, by decide⟩ rfl rfl (Nat.le_of_ble_eq_true rfl) (by omega) g_318 (c_X10_bestSum N (gl Γ) C.2.2.2.2 (gw Γ) 95 (xs (v5 + (1 : Int32)).toNatClampNeg) m_317 _ hk_319) ?_
                                                                  refine g_istore (lv' := [(7, .int r_319), (6, .int r_317), (0, .ref b), (1, .ref (oa (gw Γ) 0)), (2, .ref (oa (gw Γ) 95)), (3, .ref (oa (gw Γ) 108)), (4, .ref (oa (gw Γ) 109)), (5, .int v5)]) C dL_law_2061 (by decide) rfl ?_
                                                                  refine g_aload_n C dL_law_2063 4 rfl rfl ?_
                                                                  obtain ⟨r_320, m_320, hk_320, h⟩ := b2_some h
                                                                  refine g_vI (As := []) C dL_law_2064 mf_X10_thrown k_975 rfl (by decide) ⟨by decide, by decide⟩ rfl rfl (Nat.le_of_ble_eq_true rfl) (by omega) g_318 (c_X10_thrown N (gl Γ) C.2.2.2.2 (gw Γ) 95 m_319 _ hk_320) ?_
                                                                  refine g_iload C dL_law_2067 1 rfl ?_
                                                                  refine g_icmp_eq (tgt := 2074) C dL_law_2069 (by decide) (fun c_324 => ?_) (fun c_324 => ?_)
                                                                  · replace h := it_t c_324 h
                                                                    refine g_iload C dL_law_2074 1 rfl ?_
                                                                    refine g_if_ne (tgt := 2091) C dL_law_2076 (by decide) (fun c_323 => ?_) (fun c_323 => ?_)
                                                                    · replace h := it_f c_323 h
                                                                      refine g_goto (tgt := 2281) C dL_law_2091 (by decide) ?_
                                                                      refine g_iinc (q := 7) (v := v5 + (6 : Int32)) (lv' := [(5, .int (v5 + (6 : Int32))), (7, .int r_319), (6, .int r_317), (0, .ref b), (1, .ref (oa (gw Γ) 0)), (2, .ref (oa (gw Γ) 95)), (3, .ref (oa (gw Γ) 108)), (4, .ref (oa (gw Γ) 109))]) C dL_law_2281 rfl rfl (by decide) rfl ?_
                                                                      refine g_goto (tgt := 28) C dL_law_2284 (by decide) ?_
                                                                      refine g_sub [3, 4, 5, 6, 7, 0] rfl ?_
                                                                      exact hrec (v5 + (6 : Int32)) m_320 _ (by omega) h
                                                                    · replace h := it_t c_323 h
                                                                      refine g_aload_n C dL_law_2079 5 rfl rfl ?_
                                                                      refine g_iconst (v := (0 : Int32)) C dL_law_2080 (by decide) ?_
                                                                      obtain ⟨g_321, h⟩ := gd_some h
                                                                      refine g_lald C dL_law_2081 g_321 ?_
                                                                      refine g_iload C dL_law_2082 0 rfl ?_
                                                                      refine g_i2l C dL_law_2084 ?_
                                                                      refine g_lcmp C dL_law_2085 ?_
                                                                      refine g_if_eq (tgt := 2091) C dL_law_2086 (by decide) (fun c_322 => ?_) (fun c_322 => ?_)
                                                                      · replace h := it_t c_322 h
                                                                        refine g_goto (tgt := 2281) C dL_law_2091 (by decide) ?_
                                                                        refine g_iinc (q := 7) (v := v5 + (6 : Int32)) (lv' := [(5, .int (v5 + (6 : Int32))), (7, .int r_319), (6, .int r_317), (0, .ref b), (1, .ref (oa (gw Γ) 0)), (2, .ref (oa (gw Γ) 95)), (3, .ref (oa (gw Γ) 108)), (4, .ref (oa (gw Γ) 109))]) C dL_law_2281 rfl rfl (by decide) rfl ?_
                                                                        refine g_goto (tgt := 28) C dL_law_2284 (by decide) ?_
                                                                        refine g_sub [3, 4, 5, 6, 7, 0] rfl ?_
                                                                        exact hrec (v5 + (6 : Int32)) m_320 _ (by omega) h
                                                                      · replace h := it_f c_322 h
                                                                        cases h
                                                                  · replace h := it_f c_324 h
                                                                    cases h
                                                                · replace h := it_f c_325 h
                                                                  by_cases c_336 : ((xs v5.toNatClampNeg) &&& (63 : Int32)) = (31 : Int32)
                                                                  · replace h := it_t c_336 h
                                                                    refine g_tin (tgt := 2094) (off := 2049) C dL_law_45 (by rw [c_336]; decide) (by rw [c_336]; decide) (by rw [c_336]; rfl) (by decide) ?_
                                                                    refine g_aload_n C dL_law_2094 1 rfl rfl ?_
                                                                    refine g_aload_n C dL_law_2095 0 rfl rfl ?_
                                                                    refine g_iload C dL_law_2096 5 rfl ?_
                                                                    refine g_iconst (v := (1 : Int32)) C dL_law_2098 (by decide) ?_
                                                                    refine g_iadd C dL_law_2099 ?_
                                                                    obtain ⟨g_326, h⟩ := gd_some h
                                                                    refine g_sld C S dL_law_2100 g_326 ?_
                                                                    refine g_aload_n C dL_law_2101 0 rfl rfl ?_
                                                                    refine g_iload C dL_law_2102 5 rfl ?_
                                                                    refine g_iconst (v := (2 : Int32)) C dL_law_2104 (by decide) ?_
                                                                    refine g_iadd C dL_law_2105 ?_
                                                                    obtain ⟨g_327, h⟩ := gd_some h
                                                                    refine g_sld C S dL_law_2106 g_327 ?_
                                                                    refine g_aload_n C dL_law_2107 3 rfl rfl ?_
                                                                    obtain ⟨r_328, m_328, hk_328, h⟩ := b2_some h
                                                                    refine g_wI (As := [.ref (oa (gw Γ) 0), .int (xs (v5 + (1 : Int32)).toNatClampNeg), .int (xs (v5 + (2 : Int32)).toNatClampNeg), .ref (oa (gw Γ) 108)]) (mc' := 2) C dL_law_2108 mf_L_lineFor k_1135 ⟨by decide, by decide⟩ rfl rfl (Nat.le_of_ble_eq_true rfl) (by omega) (c_L_lineFor N (gl Γ) C.2.2.2.2 (gw Γ) 0 (xs (v5 + (1 : Int32)).toNatClampNeg) (xs (v5 + (2 : Int32)).toNatClampNeg) 108 m _ hk_328) ?_
                                                                    refine g_istore (lv' := [(6, .int r_328), (0, .ref b), (1, .ref (oa (gw Γ) 0)), (2, .ref (oa (gw Γ) 95)), (3, .ref (oa (gw Γ) 108)), (4, .ref (oa (gw Γ) 109)), (5, .int v5)]) C dL_law_2111 (by decide) rfl ?_
                                                                    refine g_aload_n C dL_law_2113 3 rfl rfl ?_
                                                                    refine g_aload_n C dL_law_2114 1 rfl rfl ?_
                                                                    refine g_iload C dL_law_2115 6 rfl ?_
                                                                    refine g_iconst (v := (1 : Int32)) C dL_law_2117 (by decide) ?_
                                                                    refine g_iadd C dL_law_2118 ?_
                                                                    refine g_sld C S dL_law_2119 g_326 ?_
                                                                    refine g_aload_n C dL_law_2120 1 rfl rfl ?_
                                                                    refine g_iload C dL_law_2121 6 rfl ?_
                                                                    refine g_iconst (v := (2 : Int32)) C dL_law_2123 (by decide) ?_
                                                                    refine g_iadd C dL_law_2124 ?_
                                                                    refine g_sld C S dL_law_2125 g_327 ?_
                                                                    obtain ⟨g_329, h⟩ := gd_some h
                                                                    obtain ⟨r_330, m_330, hk_330, h⟩ := b2_some h
                                                                    refine g_vI (As := [.int (xs (v5 + (1 : Int32)).toNatClampNeg), .int (xs (v5 + (2 : Int32)).toNatClampNeg)]) C dL_law_2126 mf_X10_lineFor k_1136 rfl (by decide) ⟨by decide, by decide⟩ rfl rfl (Nat.le_of_ble_eq_true rfl) (by omega) g_329 (c_X10_lineFor N (gl Γ) C.2.2.2.2 (gw Γ) 95 (xs (v5 + (1 : Int32)).toNatClampNeg) (xs (v5 + (2 : Int32)).toNatClampNeg) m_328 _ hk_330) ?_
                                                                    refine g_istore (lv' := [(7, .int r_330), (6, .int r_328), (0, .ref b), (1, .ref (oa (gw Γ) 0)), (2, .ref (oa (gw Γ) 95)), (3, .ref (oa (gw Γ) 108)), (4, .ref (oa (gw Γ) 109)), (5, .int v5)]) C dL_law_2129 (by decide) rfl ?_
                                                                    refine g_aload_n C dL_law_2131 4 rfl rfl ?_
                                                                    obtain ⟨r_331, m_331, hk_331, h⟩ := b2_some h
                                                                    refine g_vI (As := []) C dL_law_2132 mf_X10_thrown k_975 rfl (by decide) ⟨by decide, by decide⟩ rfl rfl (Nat.le_of_ble_eq_true rfl) (by omega) g_329 (c_X10_thrown N (gl Γ) C.2.2.2.2 (gw Γ) 95 m_330 _ hk_331) ?_
                                                                    refine g_iload C dL_law_2135 1 rfl ?_
                                                                    refine g_icmp_eq (tgt := 2142) C dL_law_2137 (by decide) (fun c_335 => ?_) (fun c_335 => ?_)
                                                                    · replace h := it_t c_335 h
                                                                      refine g_iload C dL_law_2142 1 rfl ?_
                                                                      refine g_if_ne (tgt := 2159) C dL_law_2144 (by decide) (fun c_334 => ?_) (fun c_334 => ?_)
                                                                      · replace h := it_f c_334 h
                                                                        refine g_goto (tgt := 2281) C dL_law_2159 (by decide) ?_
                                                                        refine g_iinc (q := 7) (v := v5 + (6 : Int32)) (lv' := [(5, .int (v5 + (6 : Int32))), (7, .int r_330), (6, .int r_328), (0, .ref b), (1, .ref (oa (gw Γ) 0)), (2, .ref (oa (gw Γ) 95)), (3, .ref (oa (gw Γ) 108)), (4, .ref (oa (gw Γ) 109))]) C dL_law_2281 rfl rfl (by decide) rfl ?_
                                                                        refine g_goto (tgt := 28) C dL_law_2284 (by decide) ?_
                                                                        refine g_sub [3, 4, 5, 6, 7, 0] rfl ?_
                                                                        exact hrec (v5 + (6 : Int32)) m_331 _ (by omega) h
                                                                      · replace h := it_t c_334 h
                                                                        refine g_aload_n C dL_law_2147 5 rfl rfl ?_
                                                                        refine g_iconst (v := (0 : Int32)) C dL_law_2148 (by decide) ?_
                                                                        obtain ⟨g_332, h⟩ := gd_some h
                                                                        refine g_lald C dL_law_2149 g_332 ?_
                                                                        refine g_iload C dL_law_2150 0 rfl ?_
                                                                        refine g_i2l C dL_law_2152 ?_
                                                                        refine g_lcmp C dL_law_2153 ?_
                                                                        refine g_if_eq (tgt := 2159) C dL_law_2154 (by decide) (fun c_333 => ?_) (fun c_333 => ?_)
                                                                        · replace h := it_t c_333 h
                                                                          refine g_goto (tgt := 2281) C dL_law_2159 (by decide) ?_
                                                                          refine g_iinc (q := 7) (v := v5 + (6 : Int32)) (lv' := [(5, .int (v5 + (6 : Int32))), (7, .int r_330), (6, .int r_328), (0, .ref b), (1, .ref (oa (gw Γ) 0)), (2, .ref (oa (gw Γ) 95)), (3, .ref (oa (gw Γ) 108)), (4, .ref (oa (gw Γ) 109))]) C dL_law_2281 rfl rfl (by decide) rfl ?_
                                                                          refine g_goto (tgt := 28) C dL_law_2284 (by decide) ?_
                                                                          refine g_sub [3, 4, 5, 6, 7, 0] rfl ?_
                                                                          exact hrec (v5 + (6 : Int32)) m_331 _ (by omega) h
                                                                        · replace h := it_f c_333 h
                                                                          cases h
                                                                    · replace h := it_f c_335 h
                                                                      cases h
                                                                  · replace h := it_f c_336 h
                                                                    by_cases c_348 : ((xs v5.toNatClampNeg) &&& (63 : Int32)) = (32 : Int32)
                                                                    · replace h := it_t c_348 h
                                                                      refine g_tin (tgt := 2162) (off := 2117) C dL_law_45 (by rw [c_348]; decide) (by rw [c_348]; decide) (by rw [c_348]; rfl) (by decide) ?_
                                                                      refine g_aload_n C dL_law_2162 1 rfl rfl ?_
                                                                      refine g_aload_n C dL_law_2163 0 rfl rfl ?_
                                                                      refine g_iload C dL_law_2164 5 rfl ?_
                                                                      refine g_iconst (v := (1 : Int32)) C dL_law_2166 (by decide) ?_
                                                                      refine g_iadd C dL_law_2167 ?_
                                                                      obtain ⟨g_337, h⟩ := gd_some h
                                                                      refine g_sld C S dL_law_2168 g_337 ?_
                                                                      refine g_aload_n C dL_law_2169 0 rfl rfl ?_
                                                                      refine g_iload C dL_law_2170 5 rfl ?_
                                                                      refine g_iconst (v := (2 : Int32)) C dL_law_2172 (by decide) ?_
                                                                      refine g_iadd C dL_law_2173 ?_
                                                                      obtain ⟨g_338, h⟩ := gd_some h
                                                                      refine g_sld C S dL_law_2174 g_338 ?_
                                                                      refine g_aload_n C dL_law_2175 3 rfl rfl ?_
                                                                      obtain ⟨r_339, m_339, hk_339, h⟩ := b2_some h
                                                                      refine g_wI (As := [.ref (oa (gw Γ) 0), .int (xs (v5 + (1 : Int32)).toNatClampNeg), .int (xs (v5 + (2 : Int32)).toNatClampNeg), .ref (oa (gw Γ) 108)]) (mc' := 4) C dL_law_2176 mf_L_appeal k_1140 ⟨by decide, by decide⟩ rfl rfl (Nat.le_of_ble_eq_true rfl) (by omega) (c_L_appeal N (gl Γ) C.2.2.2.2 (gw Γ) 0 (xs (v5 + (1 : Int32)).toNatClampNeg) (xs (v5 + (2 : Int32)).toNatClampNeg) 108 m _ hk_339) ?_
                                                                      refine g_istore (lv' := [(6, .int r_339), (0, .ref b), (1, .ref (oa (gw Γ) 0)), (2, .ref (oa (gw Γ) 95)), (3, .ref (oa (gw Γ) 108)), (4, .ref (oa (gw Γ) 109)), (5, .int v5)]) C dL_law_2179 (by decide) rfl ?_
                                                                      refine g_aload_n C dL_law_2181 3 rfl rfl ?_
                                                                      refine g_aload_n C dL_law_2182 1 rfl rfl ?_
                                                                      refine g_iload C dL_law_2183 6 rfl ?_
                                                                      refine g_iconst (v := (1 : Int32)) C dL_law_2185 (by decide) ?_
                                                                      refine g_iadd C dL_law_2186 ?_
                                                                      refine g_sld C S dL_law_2187 g_337 ?_
                                                                      refine g_aload_n C dL_law_2188 1 rfl rfl ?_
                                                                      refine g_iload C dL_law_2189 6 rfl ?_
                                                                      refine g_iconst (v := (2 : Int32)) C dL_law_2191 (by decide) ?_
                                                                      refine g_iadd C dL_law_2192 ?_
                                                                      refine g_sld C S dL_law_2193 g_338 ?_
                                                                      obtain ⟨g_340, h⟩ := gd_some h
                                                                      obtain ⟨r_341, m_341, hk_341, h⟩ := b2_some h
                                                                      refine g_vI (As := [.int (xs (v5 + (1 : Int32)).toNatClampNeg), .int (xs (v5 + (2 : Int32)).toNatClampNeg)]) C dL_law_2194 mf_X10_appeal k_1141 rfl (by decide) ⟨by decide, by decide⟩ rfl rfl (Nat.le_of_ble_eq_true rfl) (by omega) g_340 (c_X10_appeal N (gl Γ) C.2.2.2.2 (gw Γ) 95 (xs (v5 + (1 : Int32)).toNatClampNeg) (xs (v5 + (2 : Int32)).toNatClampNeg) m_339 _ hk_341) ?_
                                                                      refine g_istore (lv' := [(7, .int r_341), (6, .int r_339), (0, .ref b), (1, .ref (oa (gw Γ) 0)), (2, .ref (oa (gw Γ) 95)), (3, .ref (oa (gw Γ) 108)), (4, .ref (oa (gw Γ) 109)), (5, .int v5)]) C dL_law_2197 (by decide) rfl ?_
                                                                      refine g_aload_n C dL_law_2199 4 rfl rfl ?_
                                                                      obtain ⟨r_342, m_342, hk_342, h⟩ := b2_some h
                                                                      refine g_vI (As := []) C dL_law_2200 mf_X10_thrown k_975 rfl (by decide) ⟨by decide, by decide⟩ rfl rfl (Nat.le_of_ble_eq_true rfl) (by omega) g_340 (c_X10_thrown N (gl Γ) C.2.2.2.2 (gw Γ) 95 m_341 _ hk_342) ?_
                                                                      refine g_iload C dL_law_2203 1 rfl ?_
                                                                      refine g_icmp_eq (tgt := 2210) C dL_law_2205 (by decide) (fun c_347 => ?_) (fun c_347 => ?_)
                                                                      · replace h := it_t c_347 h
                                                                        refine g_iload C dL_law_2210 1 rfl ?_
                                                                        refine g_if_ne (tgt := 2234) C dL_law_2212 (by decide) (fun c_346 => ?_) (fun c_346 => ?_)
                                                                        · replace h := it_f c_346 h
                                                                          refine g_goto (tgt := 2281) C dL_law_2234 (by decide) ?_
                                                                          refine g_iinc (q := 7) (v := v5 + (6 : Int32)) (lv' := [(5, .int (v5 + (6 : Int32))), (7, .int r_341), (6, .int r_339), (0, .ref b), (1, .ref (oa (gw Γ) 0)), (2, .ref (oa (gw Γ) 95)), (3, .ref (oa (gw Γ) 108)), (4, .ref (oa (gw Γ) 109))]) C dL_law_2281 rfl rfl (by decide) rfl ?_
                                                                          refine g_goto (tgt := 28) C dL_law_2284 (by decide) ?_
                                                                          refine g_sub [3, 4, 5, 6, 7, 0] rfl ?_
                                                                          exact hrec (v5 + (6 : Int32)) m_342 _ (by omega) h
                                                                        · replace h := it_t c_346 h
                                                                          refine g_aload_n C dL_law_2215 5 rfl rfl ?_
                                                                          refine g_iconst (v := (0 : Int32)) C dL_law_2216 (by decide) ?_
                                                                          obtain ⟨g_343, h⟩ := gd_some h
                                                                          refine g_lald C dL_law_2217 g_343 ?_
                                                                          refine g_iload C dL_law_2218 0 rfl ?_
                                                                          refine g_if_eq (tgt := 2227) C dL_law_2220 (by decide) (fun c_345 => ?_) (fun c_345 => ?_)
                                                                          · replace h := it_t c_345 h
                                                                            refine g_lconst (v := (0 : Int64)) C dL_law_2227 (by decide) ?_
                                                                            refine g_sub [2, 3, 4, 5, 6, 7] rfl ?_
                                                                            exact t_L_law_2228 N Γ C b L xs S o rc cm _ (by omega) hcm hE hrec v5 (0 : Int64) (gJ m_342 108 (0 : Int32).toNatClampNeg) m_342 h
                                                                          · replace h := it_f c_345 h
                                                                            refine g_lconst (v := (1 : Int64)) C dL_law_2223 (by decide) ?_
                                                                            refine g_goto (tgt := 2228) C dL_law_2224 (by decide) ?_
                                                                            refine g_sub [2, 3, 4, 5, 6, 7] rfl ?_
                                                                            exact t_L_law_2228 N Γ C b L xs S o rc cm _ (by omega) hcm hE hrec v5 (1 : Int64) (gJ m_342 108 (0 : Int32).toNatClampNeg) m_342 h
                                                                      · replace h := it_f c_347 h
                                                                        cases h
                                                                    · replace h := it_f c_348 h
                                                                      by_cases c_357 : ((xs v5.toNatClampNeg) &&& (63 : Int32)) = (33 : Int32)
                                                                      · replace h := it_t c_357 h
                                                                        refine g_tin (tgt := 2237) (off := 2192) C dL_law_45 (by rw [c_357]; decide) (by rw [c_357]; decide) (by rw [c_357]; rfl) (by decide) ?_
                                                                        refine g_aload_n C dL_law_2237 1 rfl rfl ?_
                                                                        refine g_aload_n C dL_law_2238 3 rfl rfl ?_
                                                                        obtain ⟨r_349, m_349, hk_349, h⟩ := b2_some h
                                                                        refine g_wI (As := [.ref (oa (gw Γ) 0), .ref (oa (gw Γ) 108)]) (mc' := 1) C dL_law_2239 mf_L_undo k_1145 ⟨by decide, by decide⟩ rfl rfl (Nat.le_of_ble_eq_true rfl) (by omega) (c_L_undo N (gl Γ) C.2.2.2.2 (gw Γ) 0 108 m _ hk_349) ?_
                                                                        refine g_istore (lv' := [(6, .int r_349), (0, .ref b), (1, .ref (oa (gw Γ) 0)), (2, .ref (oa (gw Γ) 95)), (3, .ref (oa (gw Γ) 108)), (4, .ref (oa (gw Γ) 109)), (5, .int v5)]) C dL_law_2242 (by decide) rfl ?_
                                                                        refine g_aload_n C dL_law_2244 3 rfl rfl ?_
                                                                        obtain ⟨g_350, h⟩ := gd_some h
                                                                        obtain ⟨r_351, m_351, hk_351, h⟩ := b2_some h
                                                                        refine g_vI (As := []) C dL_law_2245 mf_X10_undo k_1146 rfl (by decide) ⟨by decide, by decide⟩ rfl rfl (Nat.le_of_ble_eq_true rfl) (by omega) g_350 (c_X10_undo N (gl Γ) C.2.2.2.2 (gw Γ) 95 m_349 _ hk_351) ?_
                                                                        refine g_istore (lv' := [(7, .int r_351), (6, .int r_349), (0, .ref b), (1, .ref (oa (gw Γ) 0)), (2, .ref (oa (gw Γ) 95)), (3, .ref (oa (gw Γ) 108)), (4, .ref (oa (gw Γ) 109)), (5, .int v5)]) C dL_law_2248 (by decide) rfl ?_
                                                                        refine g_aload_n C dL_law_2250 4 rfl rfl ?_
                                                                        obtain ⟨r_352, m_352, hk_352, h⟩ := b2_some h
                                                                        refine g_vI (As := []) C dL_law_2251 mf_X10_thrown k_975 rfl (by decide) ⟨by decide, by decide⟩ rfl rfl (Nat.le_of_ble_eq_true rfl) (by omega) g_350 (c_X10_thrown N (gl Γ) C.2.2.2.2 (gw Γ) 95 m_351 _ hk_352) ?_
                                                                        refine g_iload C dL_law_2254 1 rfl ?_
                                                                        refine g_icmp_eq (tgt := 2261) C dL_law_2256 (by decide) (fun c_356 => ?_) (fun c_356 => ?_)
                                                                        · replace h := it_t c_356 h
                                                                          refine g_iload C dL_law_2261 1 rfl ?_
                                                                          refine g_if_ne (tgt := 2278) C dL_law_2263 (by decide) (fun c_355 => ?_) (fun c_355 => ?_)
                                                                          · replace h := it_f c_355 h
                                                                            refine g_goto (tgt := 2281) C dL_law_2278 (by decide) ?_
                                                                            refine g_iinc (q := 7) (v := v5 + (6 : Int32)) (lv' := [(5, .int (v5 + (6 : Int32))), (7, .int r_351), (6, .int r_349), (0, .ref b), (1, .ref (oa (gw Γ) 0)), (2, .ref (oa (gw Γ) 95)), (3, .ref (oa (gw Γ) 108)), (4, .ref (oa (gw Γ) 109))]) C dL_law_2281 rfl rfl (by decide) rfl ?_
                                                                            refine g_goto (tgt := 28) C dL_law_2284 (by decide) ?_
                                                                            refine g_sub [3, 4, 5, 6, 7, 0] rfl ?_
                                                                            exact hrec (v5 + (6 : Int32)) m_352 _ (by omega) h
                                                                          · replace h := it_t c_355 h
                                                                            refine g_aload_n C dL_law_2266 5 rfl rfl ?_
                                                                            refine g_iconst (v := (0 : Int32)) C dL_law_2267 (by decide) ?_
                                                                            obtain ⟨g_353, h⟩ := gd_some h
                                                                            refine g_lald C dL_law_2268 g_353 ?_
                                                                            refine g_iload C dL_law_2269 0 rfl ?_
                                                                            refine g_i2l C dL_law_2271 ?_
                                                                            refine g_lcmp C dL_law_2272 ?_
                                                                            refine g_if_eq (tgt := 2278) C dL_law_2273 (by decide) (fun c_354 => ?_) (fun c_354 => ?_)
                                                                            · replace h := it_t c_354 h
                                                                              refine g_goto (tgt := 2281) C dL_law_2278 (by decide) ?_
                                                                              refine g_iinc (q := 7) (v := v5 + (6 : Int32)) (lv' := [(5, .int (v5 + (6 : Int32))), (7, .int r_351), (6, .int r_349), (0, .ref b), (1, .ref (oa (gw Γ) 0)), (2, .ref (oa (gw Γ) 95)), (3, .ref (oa (gw Γ) 108)), (4, .ref (oa (gw Γ) 109))]) C dL_law_2281 rfl rfl (by decide) rfl ?_
                                                                              refine g_goto (tgt := 28) C dL_law_2284 (by decide) ?_
                                                                              refine g_sub [3, 4, 5, 6, 7, 0] rfl ?_
                                                                              exact hrec (v5 + (6 : Int32)) m_352 _ (by omega) h
                                                                            · replace h := it_f c_354 h
                                                                              cases h
                                                                        · replace h := it_f c_356 h
                                                                          cases h
                                                                      · replace h := it_f c_357 h
                                                                        refine g_tout (tgt := 2281) C dL_law_45 (sw34 c_15 c_25 c_34 c_40 c_46 c_56 c_68 c_79 c_91 c_102 c_113 c_123 c_134 c_144 c_154 c_164 c_174 c_186 c_197 c_207 c_219 c_231 c_241 c_252 c_263 c_273 c_284 c_295 c_305 c_315 c_325 c_336 c_348 c_357) (by decide) ?_
                                                                        refine g_iinc (q := 5) (v := v5 + (6 : Int32)) (lv' := [(5, .int (v5 + (6 : Int32))), (0, .ref b), (1, .ref (oa (gw Γ) 0)), (2, .ref (oa (gw Γ) 95)), (3, .ref (oa (gw Γ) 108)), (4, .ref (oa (gw Γ) 109))]) C dL_law_2281 rfl rfl (by decide) rfl ?_
                                                                        refine g_goto (tgt := 28) C dL_law_2284 (by decide) ?_
                                                                        refine g_sub [1, 2, 3, 4, 5, 0] rfl ?_
                                                                        exact hrec (v5 + (6 : Int32)) m _ (by omega) h
theorem lt_L_law (N : Nat) (Γ : Gc) (C : Cx Γ cL_law 9 RL (rmK 14 520 600000)) (b L : Nat) (xs : Nat → Int32) (S : HS Γ b L xs) (o : Mem) (hE : ∀ cs, cs ≤ 600000 → G Γ 9 cs o 2287 [] []) : ∀ (n cs : Nat) (v5 : Int32) (m : Mem), cs + 8 * n ≤ 600000 → L_L_law N L xs n v5 m = some o → G Γ 9 cs m 28 [(0, .ref b), (1, .ref (oa (gw Γ) 0)), (2, .ref (oa (gw Γ) 95)), (3, .ref (oa (gw Γ) 108)), (4, .ref (oa (gw Γ) 109)), (5, .int v5)] [] := by
  intro n
  induction n with
  | zero =>
    intro cs v5 m hn h
    have h9 : (none : Option Mem) = some o := h
    cases h9
  | succ n ih => intro cs v5 m hn h; exact t_L_law N Γ C b L xs S o (L_L_law N L xs n) (cs + 8) cs (Nat.le_refl _) (by omega) (fun cs9 h9 => hE cs9 (by omega)) (fun v5 m cs9 h9 hr => ih cs9 v5 m (by omega) hr) v5 m h
