-- X8_readsPly
theorem dX8_readsPly_0 : decode cX8_readsPly 0 = .ok (.aload_n 0, 1) := by decide +kernel
theorem dX8_readsPly_1 : decode cX8_readsPly 1 = .ok (.getfield 21, 3) := by decide +kernel
theorem dX8_readsPly_4 : decode cX8_readsPly 4 = .ok (.iconst 2, 1) := by decide +kernel
theorem dX8_readsPly_5 : decode cX8_readsPly 5 = .ok (.iaload, 1) := by decide +kernel
theorem dX8_readsPly_6 : decode cX8_readsPly 6 = .ok (.bipush 8, 2) := by decide +kernel
theorem dX8_readsPly_8 : decode cX8_readsPly 8 = .ok (.if_icmp .ne 8, 3) := by decide +kernel
theorem dX8_readsPly_11 : decode cX8_readsPly 11 = .ok (.aload_n 0, 1) := by decide +kernel
theorem dX8_readsPly_12 : decode cX8_readsPly 12 = .ok (.iconst 3, 1) := by decide +kernel
theorem dX8_readsPly_13 : decode cX8_readsPly 13 = .ok (.invokevirtual 125, 3) := by decide +kernel
theorem dX8_readsPly_16 : decode cX8_readsPly 16 = .ok (.aload_n 0, 1) := by decide +kernel
theorem dX8_readsPly_17 : decode cX8_readsPly 17 = .ok (.iconst 1, 1) := by decide +kernel
theorem dX8_readsPly_18 : decode cX8_readsPly 18 = .ok (.invokevirtual 132, 3) := by decide +kernel
theorem dX8_readsPly_21 : decode cX8_readsPly 21 = .ok (.aload_n 0, 1) := by decide +kernel
theorem dX8_readsPly_22 : decode cX8_readsPly 22 = .ok (.getfield 100, 3) := by decide +kernel
theorem dX8_readsPly_25 : decode cX8_readsPly 25 = .ok (.iconst 1, 1) := by decide +kernel
theorem dX8_readsPly_26 : decode cX8_readsPly 26 = .ok (.if_icmp .ne 10, 3) := by decide +kernel
theorem dX8_readsPly_29 : decode cX8_readsPly 29 = .ok (.aload_n 0, 1) := by decide +kernel
theorem dX8_readsPly_30 : decode cX8_readsPly 30 = .ok (.invokevirtual 155, 3) := by decide +kernel
theorem dX8_readsPly_33 : decode cX8_readsPly 33 = .ok (.goto 4, 3) := by decide +kernel
theorem dX8_readsPly_36 : decode cX8_readsPly 36 = .ok (.iconst (-1), 1) := by decide +kernel
theorem dX8_readsPly_37 : decode cX8_readsPly 37 = .ok (.istore_n 1, 1) := by decide +kernel
theorem dX8_readsPly_38 : decode cX8_readsPly 38 = .ok (.aload_n 0, 1) := by decide +kernel
theorem dX8_readsPly_39 : decode cX8_readsPly 39 = .ok (.getfield 108, 3) := by decide +kernel
theorem dX8_readsPly_42 : decode cX8_readsPly 42 = .ok (.ifCond .ne 21, 3) := by decide +kernel
theorem dX8_readsPly_45 : decode cX8_readsPly 45 = .ok (.aload_n 0, 1) := by decide +kernel
theorem dX8_readsPly_46 : decode cX8_readsPly 46 = .ok (.getfield 100, 3) := by decide +kernel
theorem dX8_readsPly_49 : decode cX8_readsPly 49 = .ok (.iconst 1, 1) := by decide +kernel
theorem dX8_readsPly_50 : decode cX8_readsPly 50 = .ok (.if_icmp .ne 13, 3) := by decide +kernel
theorem dX8_readsPly_53 : decode cX8_readsPly 53 = .ok (.iload_n 1, 1) := by decide +kernel
theorem dX8_readsPly_54 : decode cX8_readsPly 54 = .ok (.iconst (-1), 1) := by decide +kernel
theorem dX8_readsPly_55 : decode cX8_readsPly 55 = .ok (.if_icmp .ne 8, 3) := by decide +kernel
theorem dX8_readsPly_58 : decode cX8_readsPly 58 = .ok (.aload_n 0, 1) := by decide +kernel
theorem dX8_readsPly_59 : decode cX8_readsPly 59 = .ok (.iconst 2, 1) := by decide +kernel
theorem dX8_readsPly_60 : decode cX8_readsPly 60 = .ok (.invokevirtual 125, 3) := by decide +kernel
theorem dX8_readsPly_63 : decode cX8_readsPly 63 = .ok (.aload_n 0, 1) := by decide +kernel
theorem dX8_readsPly_64 : decode cX8_readsPly 64 = .ok (.aload_n 0, 1) := by decide +kernel
theorem dX8_readsPly_65 : decode cX8_readsPly 65 = .ok (.getfield 108, 3) := by decide +kernel
theorem dX8_readsPly_68 : decode cX8_readsPly 68 = .ok (.ifCond .ne 11, 3) := by decide +kernel
theorem dX8_readsPly_71 : decode cX8_readsPly 71 = .ok (.aload_n 0, 1) := by decide +kernel
theorem dX8_readsPly_72 : decode cX8_readsPly 72 = .ok (.getfield 100, 3) := by decide +kernel
theorem dX8_readsPly_75 : decode cX8_readsPly 75 = .ok (.iconst 1, 1) := by decide +kernel
theorem dX8_readsPly_76 : decode cX8_readsPly 76 = .ok (.if_icmp .ne 7, 3) := by decide +kernel
theorem dX8_readsPly_79 : decode cX8_readsPly 79 = .ok (.iconst 1, 1) := by decide +kernel
theorem dX8_readsPly_80 : decode cX8_readsPly 80 = .ok (.goto 4, 3) := by decide +kernel
theorem dX8_readsPly_83 : decode cX8_readsPly 83 = .ok (.iconst 0, 1) := by decide +kernel
theorem dX8_readsPly_84 : decode cX8_readsPly 84 = .ok (.invokevirtual 132, 3) := by decide +kernel
theorem dX8_readsPly_87 : decode cX8_readsPly 87 = .ok (.aload_n 0, 1) := by decide +kernel
theorem dX8_readsPly_88 : decode cX8_readsPly 88 = .ok (.ldc 168, 2) := by decide +kernel
theorem dX8_readsPly_90 : decode cX8_readsPly 90 = .ok (.invokevirtual 136, 3) := by decide +kernel
theorem dX8_readsPly_93 : decode cX8_readsPly 93 = .ok (.ifCond .eq 7, 3) := by decide +kernel
theorem dX8_readsPly_96 : decode cX8_readsPly 96 = .ok (.iconst 0, 1) := by decide +kernel
theorem dX8_readsPly_97 : decode cX8_readsPly 97 = .ok (.goto 43, 3) := by decide +kernel
theorem dX8_readsPly_100 : decode cX8_readsPly 100 = .ok (.aload_n 0, 1) := by decide +kernel
theorem dX8_readsPly_101 : decode cX8_readsPly 101 = .ok (.ldc 170, 2) := by decide +kernel
theorem dX8_readsPly_103 : decode cX8_readsPly 103 = .ok (.invokevirtual 136, 3) := by decide +kernel
theorem dX8_readsPly_106 : decode cX8_readsPly 106 = .ok (.ifCond .eq 7, 3) := by decide +kernel
theorem dX8_readsPly_109 : decode cX8_readsPly 109 = .ok (.iconst 1, 1) := by decide +kernel
theorem dX8_readsPly_110 : decode cX8_readsPly 110 = .ok (.goto 30, 3) := by decide +kernel
theorem dX8_readsPly_113 : decode cX8_readsPly 113 = .ok (.aload_n 0, 1) := by decide +kernel
theorem dX8_readsPly_114 : decode cX8_readsPly 114 = .ok (.ldc 172, 2) := by decide +kernel
theorem dX8_readsPly_116 : decode cX8_readsPly 116 = .ok (.invokevirtual 136, 3) := by decide +kernel
theorem dX8_readsPly_119 : decode cX8_readsPly 119 = .ok (.ifCond .eq 7, 3) := by decide +kernel
theorem dX8_readsPly_122 : decode cX8_readsPly 122 = .ok (.iconst 2, 1) := by decide +kernel
theorem dX8_readsPly_123 : decode cX8_readsPly 123 = .ok (.goto 17, 3) := by decide +kernel
theorem dX8_readsPly_126 : decode cX8_readsPly 126 = .ok (.aload_n 0, 1) := by decide +kernel
theorem dX8_readsPly_127 : decode cX8_readsPly 127 = .ok (.ldc 174, 2) := by decide +kernel
theorem dX8_readsPly_129 : decode cX8_readsPly 129 = .ok (.invokevirtual 136, 3) := by decide +kernel
theorem dX8_readsPly_132 : decode cX8_readsPly 132 = .ok (.ifCond .eq 7, 3) := by decide +kernel
theorem dX8_readsPly_135 : decode cX8_readsPly 135 = .ok (.iconst 3, 1) := by decide +kernel
theorem dX8_readsPly_136 : decode cX8_readsPly 136 = .ok (.goto 4, 3) := by decide +kernel
theorem dX8_readsPly_139 : decode cX8_readsPly 139 = .ok (.iconst (-1), 1) := by decide +kernel
theorem dX8_readsPly_140 : decode cX8_readsPly 140 = .ok (.istore_n 2, 1) := by decide +kernel
theorem dX8_readsPly_141 : decode cX8_readsPly 141 = .ok (.aload_n 0, 1) := by decide +kernel
theorem dX8_readsPly_142 : decode cX8_readsPly 142 = .ok (.aload_n 0, 1) := by decide +kernel
theorem dX8_readsPly_143 : decode cX8_readsPly 143 = .ok (.getfield 108, 3) := by decide +kernel
theorem dX8_readsPly_146 : decode cX8_readsPly 146 = .ok (.ifCond .ne 8, 3) := by decide +kernel
theorem dX8_readsPly_149 : decode cX8_readsPly 149 = .ok (.iload_n 2, 1) := by decide +kernel
theorem dX8_readsPly_150 : decode cX8_readsPly 150 = .ok (.iconst (-1), 1) := by decide +kernel
theorem dX8_readsPly_151 : decode cX8_readsPly 151 = .ok (.if_icmp .eq 7, 3) := by decide +kernel
theorem dX8_readsPly_154 : decode cX8_readsPly 154 = .ok (.iconst 1, 1) := by decide +kernel
theorem dX8_readsPly_155 : decode cX8_readsPly 155 = .ok (.goto 4, 3) := by decide +kernel
theorem dX8_readsPly_158 : decode cX8_readsPly 158 = .ok (.iconst 0, 1) := by decide +kernel
theorem dX8_readsPly_159 : decode cX8_readsPly 159 = .ok (.invokevirtual 132, 3) := by decide +kernel
theorem dX8_readsPly_162 : decode cX8_readsPly 162 = .ok (.aload_n 0, 1) := by decide +kernel
theorem dX8_readsPly_163 : decode cX8_readsPly 163 = .ok (.getfield 108, 3) := by decide +kernel
theorem dX8_readsPly_166 : decode cX8_readsPly 166 = .ok (.ifCond .ne 32, 3) := by decide +kernel
theorem dX8_readsPly_169 : decode cX8_readsPly 169 = .ok (.aload_n 0, 1) := by decide +kernel
theorem dX8_readsPly_170 : decode cX8_readsPly 170 = .ok (.getfield 21, 3) := by decide +kernel
theorem dX8_readsPly_173 : decode cX8_readsPly 173 = .ok (.bipush 19, 2) := by decide +kernel
theorem dX8_readsPly_175 : decode cX8_readsPly 175 = .ok (.aload_n 0, 1) := by decide +kernel
theorem dX8_readsPly_176 : decode cX8_readsPly 176 = .ok (.getfield 21, 3) := by decide +kernel
theorem dX8_readsPly_179 : decode cX8_readsPly 179 = .ok (.iconst 2, 1) := by decide +kernel
theorem dX8_readsPly_180 : decode cX8_readsPly 180 = .ok (.iaload, 1) := by decide +kernel
theorem dX8_readsPly_181 : decode cX8_readsPly 181 = .ok (.iadd, 1) := by decide +kernel
theorem dX8_readsPly_182 : decode cX8_readsPly 182 = .ok (.iconst 4, 1) := by decide +kernel
theorem dX8_readsPly_183 : decode cX8_readsPly 183 = .ok (.iload_n 1, 1) := by decide +kernel
theorem dX8_readsPly_184 : decode cX8_readsPly 184 = .ok (.imul, 1) := by decide +kernel
theorem dX8_readsPly_185 : decode cX8_readsPly 185 = .ok (.iload_n 2, 1) := by decide +kernel
theorem dX8_readsPly_186 : decode cX8_readsPly 186 = .ok (.iadd, 1) := by decide +kernel
theorem dX8_readsPly_187 : decode cX8_readsPly 187 = .ok (.iastore, 1) := by decide +kernel
theorem dX8_readsPly_188 : decode cX8_readsPly 188 = .ok (.aload_n 0, 1) := by decide +kernel
theorem dX8_readsPly_189 : decode cX8_readsPly 189 = .ok (.getfield 21, 3) := by decide +kernel
theorem dX8_readsPly_192 : decode cX8_readsPly 192 = .ok (.iconst 2, 1) := by decide +kernel
theorem dX8_readsPly_193 : decode cX8_readsPly 193 = .ok (.dup2, 1) := by decide +kernel
theorem dX8_readsPly_194 : decode cX8_readsPly 194 = .ok (.iaload, 1) := by decide +kernel
theorem dX8_readsPly_195 : decode cX8_readsPly 195 = .ok (.iconst 1, 1) := by decide +kernel
theorem dX8_readsPly_196 : decode cX8_readsPly 196 = .ok (.iadd, 1) := by decide +kernel
theorem dX8_readsPly_197 : decode cX8_readsPly 197 = .ok (.iastore, 1) := by decide +kernel
theorem dX8_readsPly_198 : decode cX8_readsPly 198 = .ok (.return_, 1) := by decide +kernel
noncomputable def fX8_readsPly_159  (t_mem : Nat → Int32) (t_tape : Nat → Int32) (t_taped : Int32) (t_faultKind : Int32) (t_faultPlace : Int32) (t_at : Int32) (t_begin : Int32) (t_token : Int32) (t_value : Int32) (t_bad : Int32) (v1 : Int32) (v2 : Int32) (z1 : Int32) : Option ((Nat → Int32) × Int32 × Int32 × Int32 × Int32 × Int32 × Int32 × Int32) := ob7 (fX8_passes t_tape t_taped t_faultKind t_faultPlace t_at t_begin t_token t_value t_bad z1) fun w57 w58 w59 w60 w61 w62 w63 => (if w63 = 0 then chk 27 (19 + (t_mem 2)) (some (upd (upd t_mem ((19 + (t_mem 2)).toNatClampNeg) ((4 * v1) + v2)) 2 (((upd t_mem ((19 + (t_mem 2)).toNatClampNeg) ((4 * v1) + v2)) 2) + 1), w57, w58, w59, w60, w61, w62, w63)) else some (t_mem, w57, w58, w59, w60, w61, w62, w63))
noncomputable def fX8_readsPly_154  (t_mem : Nat → Int32) (t_tape : Nat → Int32) (t_taped : Int32) (t_faultKind : Int32) (t_faultPlace : Int32) (t_at : Int32) (t_begin : Int32) (t_token : Int32) (t_value : Int32) (t_bad : Int32) (v1 : Int32) (v2 : Int32) : Option ((Nat → Int32) × Int32 × Int32 × Int32 × Int32 × Int32 × Int32 × Int32) := fX8_readsPly_159 t_mem t_tape t_taped t_faultKind t_faultPlace t_at t_begin t_token t_value t_bad v1 v2 1
noncomputable def fX8_readsPly_140  (t_mem : Nat → Int32) (t_tape : Nat → Int32) (t_taped : Int32) (t_faultKind : Int32) (t_faultPlace : Int32) (t_at : Int32) (t_begin : Int32) (t_token : Int32) (t_value : Int32) (t_bad : Int32) (v1 : Int32) (z0 : Int32) : Option ((Nat → Int32) × Int32 × Int32 × Int32 × Int32 × Int32 × Int32 × Int32) := (if t_bad = 0 then (if z0 = (-1) then fX8_readsPly_159 t_mem t_tape t_taped t_faultKind t_faultPlace t_at t_begin t_token t_value t_bad v1 z0 0 else fX8_readsPly_154 t_mem t_tape t_taped t_faultKind t_faultPlace t_at t_begin t_token t_value t_bad v1 z0) else fX8_readsPly_154 t_mem t_tape t_taped t_faultKind t_faultPlace t_at t_begin t_token t_value t_bad v1 z0)
noncomputable def fX8_readsPly_84  (t_mem : Nat → Int32) (t_tape : Nat → Int32) (t_taped : Int32) (t_faultKind : Int32) (t_faultPlace : Int32) (t_at : Int32) (t_begin : Int32) (t_token : Int32) (t_value : Int32) (t_bad : Int32) (v1 : Int32) (z1 : Int32) : Option ((Nat → Int32) × Int32 × Int32 × Int32 × Int32 × Int32 × Int32 × Int32) := ob7 (fX8_passes t_tape t_taped t_faultKind t_faultPlace t_at t_begin t_token t_value t_bad z1) fun w30 w31 w32 w33 w34 w35 w36 => (fX8_isWord t_tape w32 w33 w34 9).bind fun r38 => (if r38 = 0 then (fX8_isWord t_tape w32 w33 w34 10).bind fun r42 => (if r42 = 0 then (fX8_isWord t_tape w32 w33 w34 11).bind fun r46 => (if r46 = 0 then (fX8_isWord t_tape w32 w33 w34 12).bind fun r50 => (if r50 = 0 then fX8_readsPly_140 t_mem t_tape t_taped w30 w31 w32 w33 w34 w35 w36 v1 (-1) else fX8_readsPly_140 t_mem t_tape t_taped w30 w31 w32 w33 w34 w35 w36 v1 3) else fX8_readsPly_140 t_mem t_tape t_taped w30 w31 w32 w33 w34 w35 w36 v1 2) else fX8_readsPly_140 t_mem t_tape t_taped w30 w31 w32 w33 w34 w35 w36 v1 1) else fX8_readsPly_140 t_mem t_tape t_taped w30 w31 w32 w33 w34 w35 w36 v1 0)
noncomputable def fX8_readsPly_79  (t_mem : Nat → Int32) (t_tape : Nat → Int32) (t_taped : Int32) (t_faultKind : Int32) (t_faultPlace : Int32) (t_at : Int32) (t_begin : Int32) (t_token : Int32) (t_value : Int32) (t_bad : Int32) (v1 : Int32) : Option ((Nat → Int32) × Int32 × Int32 × Int32 × Int32 × Int32 × Int32 × Int32) := fX8_readsPly_84 t_mem t_tape t_taped t_faultKind t_faultPlace t_at t_begin t_token t_value t_bad v1 1
noncomputable def fX8_readsPly_63  (t_mem : Nat → Int32) (t_tape : Nat → Int32) (t_taped : Int32) (t_faultKind : Int32) (t_faultPlace : Int32) (t_at : Int32) (t_begin : Int32) (t_token : Int32) (t_value : Int32) (t_bad : Int32) (v1 : Int32) : Option ((Nat → Int32) × Int32 × Int32 × Int32 × Int32 × Int32 × Int32 × Int32) := (if t_bad = 0 then (if t_token = 1 then fX8_readsPly_79 t_mem t_tape t_taped t_faultKind t_faultPlace t_at t_begin t_token t_value t_bad v1 else fX8_readsPly_84 t_mem t_tape t_taped t_faultKind t_faultPlace t_at t_begin t_token t_value t_bad v1 0) else fX8_readsPly_79 t_mem t_tape t_taped t_faultKind t_faultPlace t_at t_begin t_token t_value t_bad v1)
noncomputable def fX8_readsPly_37  (t_mem : Nat → Int32) (t_tape : Nat → Int32) (t_taped : Int32) (t_faultKind : Int32) (t_faultPlace : Int32) (t_at : Int32) (t_begin : Int32) (t_token : Int32) (t_value : Int32) (t_bad : Int32) (z0 : Int32) : Option ((Nat → Int32) × Int32 × Int32 × Int32 × Int32 × Int32 × Int32 × Int32) := (if t_bad = 0 then (if t_token = 1 then (if z0 = (-1) then ob3 (fX8_faults t_faultKind t_faultPlace t_begin t_bad 2) fun w23 w24 w25 => fX8_readsPly_63 t_mem t_tape t_taped w23 w24 t_at t_begin t_token t_value w25 z0 else fX8_readsPly_63 t_mem t_tape t_taped t_faultKind t_faultPlace t_at t_begin t_token t_value t_bad z0) else fX8_readsPly_63 t_mem t_tape t_taped t_faultKind t_faultPlace t_at t_begin t_token t_value t_bad z0) else fX8_readsPly_63 t_mem t_tape t_taped t_faultKind t_faultPlace t_at t_begin t_token t_value t_bad z0)
noncomputable def fX8_readsPly_16  (t_mem : Nat → Int32) (t_tape : Nat → Int32) (t_taped : Int32) (t_faultKind : Int32) (t_faultPlace : Int32) (t_at : Int32) (t_begin : Int32) (t_token : Int32) (t_value : Int32) (t_bad : Int32) (t_nameAt : Nat → Int32) (t_nameLong : Nat → Int32) : Option ((Nat → Int32) × Int32 × Int32 × Int32 × Int32 × Int32 × Int32 × Int32) := ob7 (fX8_passes t_tape t_taped t_faultKind t_faultPlace t_at t_begin t_token t_value t_bad 1) fun w8 w9 w10 w11 w12 w13 w14 => (if w12 = 1 then (fX8_kindHere t_mem t_tape w10 w11 t_nameAt t_nameLong).bind fun r17 => fX8_readsPly_37 t_mem t_tape t_taped w8 w9 w10 w11 w12 w13 w14 r17 else fX8_readsPly_37 t_mem t_tape t_taped w8 w9 w10 w11 w12 w13 w14 (-1))
noncomputable def fX8_readsPly  (t_mem : Nat → Int32) (t_tape : Nat → Int32) (t_taped : Int32) (t_faultKind : Int32) (t_faultPlace : Int32) (t_at : Int32) (t_begin : Int32) (t_token : Int32) (t_value : Int32) (t_bad : Int32) (t_nameAt : Nat → Int32) (t_nameLong : Nat → Int32) : Option ((Nat → Int32) × Int32 × Int32 × Int32 × Int32 × Int32 × Int32 × Int32) := (if (t_mem 2) = 8 then ob3 (fX8_faults t_faultKind t_faultPlace t_begin t_bad 3) fun w3 w4 w5 => fX8_readsPly_16 t_mem t_tape t_taped w3 w4 t_at t_begin t_token t_value w5 t_nameAt t_nameLong else fX8_readsPly_16 t_mem t_tape t_taped t_faultKind t_faultPlace t_at t_begin t_token t_value t_bad t_nameAt t_nameLong)
set_option maxHeartbeats 4000000 in
set_option maxRecDepth 100000 in
theorem ctX8_readsPly (l : Launch) (g : GT) (sz : Nat) (a_t : Nat → Nat) (t_acted : Int32) (t_taped : Int32) (t_faultKind : Int32) (t_faultPlace : Int32) (t_at : Int32) (t_begin : Int32) (t_token : Int32) (t_value : Int32) (t_bad : Int32) (t_wide : Int32) (t_lost : Int32) (t_det : Int64) (t_mask : Int32) (t_mode : Int32) (t_wanted : Int32) (t_orders : Int32) (t_foundAt : Int32) (t_foundBy : Int64) (t_unlikes : Int32) (t_mem : Nat → Int32) (t_tape : Nat → Int32) (t_nameAt : Nat → Int32) (t_nameLong : Nat → Int32) (o_t_mem : Nat → Int32) (o_t_faultKind : Int32) (o_t_faultPlace : Int32) (o_t_at : Int32) (o_t_begin : Int32) (o_t_token : Int32) (o_t_value : Int32) (o_t_bad : Int32) (h : fX8_readsPly t_mem t_tape t_taped t_faultKind t_faultPlace t_at t_begin t_token t_value t_bad t_nameAt t_nameLong = some (o_t_mem, o_t_faultKind, o_t_faultPlace, o_t_at, o_t_begin, o_t_token, o_t_value, o_t_bad)) : Met l yX8_readsPly (Cond.code yX8_readsPly cX8_readsPly 3 none :: Tw) ⟨9, 0, 0, 173⟩ (va_Pc [.ref ((a_t 0))] (rwB g [((a_t 0), .inr (7, [.ref (a_t 1), .ref (a_t 2), .int t_acted, .ref (a_t 4), .ref (a_t 5), .ref (a_t 6), .ref (a_t 7), .ref (a_t 8), .ref (a_t 9), .int t_taped, .int t_faultKind, .int t_faultPlace, .int t_at, .int t_begin, .int t_token, .int t_value, .int t_bad, .ref (a_t 18), .ref (a_t 19), .ref (a_t 20), .int t_wide, .int t_lost, .ref (a_t 23), .long t_det, .ref (a_t 25), .int t_mask, .int t_mode, .int t_wanted, .int t_orders, .int t_foundAt, .long t_foundBy, .ref (a_t 32), .ref (a_t 33), .int t_unlikes, .ref (a_t 35), .ref (a_t 36)])), ((a_t 1), .inl (g.2.2.1 0, 27, .inl t_mem)), ((a_t 9), .inl (g.2.2.1 0, 600, .inl t_tape)), ((a_t 18), .inl (g.2.2.1 0, 3, .inl t_nameAt)), ((a_t 19), .inl (g.2.2.1 0, 3, .inl t_nameLong))] sz)) (va_Qv (fun (_ : Nat → Nat) => True) (fun u => rwE g (va_A [((a_t 0), .inr (7, [.ref (a_t 1), .ref (a_t 2), .int t_acted, .ref (a_t 4), .ref (a_t 5), .ref (a_t 6), .ref (a_t 7), .ref (a_t 8), .ref (a_t 9), .int t_taped, .int t_faultKind, .int t_faultPlace, .int t_at, .int t_begin, .int t_token, .int t_value, .int t_bad, .ref (a_t 18), .ref (a_t 19), .ref (a_t 20), .int t_wide, .int t_lost, .ref (a_t 23), .long t_det, .ref (a_t 25), .int t_mask, .int t_mode, .int t_wanted, .int t_orders, .int t_foundAt, .long t_foundBy, .ref (a_t 32), .ref (a_t 33), .int t_unlikes, .ref (a_t 35), .ref (a_t 36)])), ((a_t 1), .inl (g.2.2.1 0, 27, .inl t_mem)), ((a_t 9), .inl (g.2.2.1 0, 600, .inl t_tape)), ((a_t 18), .inl (g.2.2.1 0, 3, .inl t_nameAt)), ((a_t 19), .inl (g.2.2.1 0, 3, .inl t_nameLong))] sz) [((a_t 0), .inr (7, [.ref (a_t 1), .ref (a_t 2), .int t_acted, .ref (a_t 4), .ref (a_t 5), .ref (a_t 6), .ref (a_t 7), .ref (a_t 8), .ref (a_t 9), .int t_taped, .int o_t_faultKind, .int o_t_faultPlace, .int o_t_at, .int o_t_begin, .int o_t_token, .int o_t_value, .int o_t_bad, .ref (a_t 18), .ref (a_t 19), .ref (a_t 20), .int t_wide, .int t_lost, .ref (a_t 23), .long t_det, .ref (a_t 25), .int t_mask, .int t_mode, .int t_wanted, .int t_orders, .int t_foundAt, .long t_foundBy, .ref (a_t 32), .ref (a_t 33), .int t_unlikes, .ref (a_t 35), .ref (a_t 36)])), ((a_t 1), .inl (g.2.2.1 0, 27, .inl o_t_mem)), ((a_t 9), .inl (g.2.2.1 0, 600, .inl t_tape)), ((a_t 18), .inl (g.2.2.1 0, 3, .inl t_nameAt)), ((a_t 19), .inl (g.2.2.1 0, 3, .inl t_nameLong))]) (va_A [((a_t 0), .inr (7, [.ref (a_t 1), .ref (a_t 2), .int t_acted, .ref (a_t 4), .ref (a_t 5), .ref (a_t 6), .ref (a_t 7), .ref (a_t 8), .ref (a_t 9), .int t_taped, .int t_faultKind, .int t_faultPlace, .int t_at, .int t_begin, .int t_token, .int t_value, .int t_bad, .ref (a_t 18), .ref (a_t 19), .ref (a_t 20), .int t_wide, .int t_lost, .ref (a_t 23), .long t_det, .ref (a_t 25), .int t_mask, .int t_mode, .int t_wanted, .int t_orders, .int t_foundAt, .long t_foundBy, .ref (a_t 32), .ref (a_t 33), .int t_unlikes, .ref (a_t 35), .ref (a_t 36)])), ((a_t 1), .inl (g.2.2.1 0, 27, .inl t_mem)), ((a_t 9), .inl (g.2.2.1 0, 600, .inl t_tape)), ((a_t 18), .inl (g.2.2.1 0, 3, .inl t_nameAt)), ((a_t 19), .inl (g.2.2.1 0, 3, .inl t_nameLong))] sz)) 0 0 (va_A [((a_t 0), .inr (7, [.ref (a_t 1), .ref (a_t 2), .int t_acted, .ref (a_t 4), .ref (a_t 5), .ref (a_t 6), .ref (a_t 7), .ref (a_t 8), .ref (a_t 9), .int t_taped, .int t_faultKind, .int t_faultPlace, .int t_at, .int t_begin, .int t_token, .int t_value, .int t_bad, .ref (a_t 18), .ref (a_t 19), .ref (a_t 20), .int t_wide, .int t_lost, .ref (a_t 23), .long t_det, .ref (a_t 25), .int t_mask, .int t_mode, .int t_wanted, .int t_orders, .int t_foundAt, .long t_foundBy, .ref (a_t 32), .ref (a_t 33), .int t_unlikes, .ref (a_t 35), .ref (a_t 36)])), ((a_t 1), .inl (g.2.2.1 0, 27, .inl t_mem)), ((a_t 9), .inl (g.2.2.1 0, 600, .inl t_tape)), ((a_t 18), .inl (g.2.2.1 0, 3, .inl t_nameAt)), ((a_t 19), .inl (g.2.2.1 0, 3, .inl t_nameLong))] sz) := by
  refine rw_metv (by decide) (Nat.le_of_ble_eq_true rfl) (lv0 := [(0, .ref ((a_t 0)))]) rfl ?_
  intro p e s m args below meth c ls Q A cx hret hG hAb hb0 hA hP hD hl
  have hx := cx.1
  have hb := cx.2.1
  have hG0 := hG
  have hGk : ∀ {H : Heap} {locs : List Loc}, va_S A s.heap H locs → GE g s H := fun hS => hG0.keptS hAb hS
  have hSb : ∀ {H : Heap} {locs : List Loc}, va_S A s.heap H locs → va_S (fun a => g.1 ≤ a) s.heap H locs := fun hS => ⟨hS.1, fun q h1 h2 => hS.2.1 q h1 (fun z => h2 (hAb q z)), fun l hl => hAb _ (hS.2.2 l hl)⟩
  have hS : va_S A s.heap s.heap [] := va_S.rf
  have hrt : ∀ (u : Nat → Nat) (pc : Nat) (ls : Array Slot) (x_t_mem : Nat → Int32) (x_t_faultKind : Int32) (x_t_faultPlace : Int32) (x_t_at : Int32) (x_t_begin : Int32) (x_t_token : Int32) (x_t_value : Int32) (x_t_bad : Int32) (H : Heap) (locs : List Loc), decode cX8_readsPly pc = .ok (.return_, 1) → some (x_t_mem, x_t_faultKind, x_t_faultPlace, x_t_at, x_t_begin, x_t_token, x_t_value, x_t_bad) = some (o_t_mem, o_t_faultKind, o_t_faultPlace, o_t_at, o_t_begin, o_t_token, o_t_value, o_t_bad) → va_P g.2.1 vwCl [((a_t 0), .inr (7, [.ref (a_t 1), .ref (a_t 2), .int t_acted, .ref (a_t 4), .ref (a_t 5), .ref (a_t 6), .ref (a_t 7), .ref (a_t 8), .ref (a_t 9), .int t_taped, .int x_t_faultKind, .int x_t_faultPlace, .int x_t_at, .int x_t_begin, .int x_t_token, .int x_t_value, .int x_t_bad, .ref (a_t 18), .ref (a_t 19), .ref (a_t 20), .int t_wide, .int t_lost, .ref (a_t 23), .long t_det, .ref (a_t 25), .int t_mask, .int t_mode, .int t_wanted, .int t_orders, .int t_foundAt, .long t_foundBy, .ref (a_t 32), .ref (a_t 33), .int t_unlikes, .ref (a_t 35), .ref (a_t 36)])), ((a_t 1), .inl (g.2.2.1 0, 27, .inl x_t_mem)), ((a_t 9), .inl (g.2.2.1 0, 600, .inl t_tape)), ((a_t 18), .inl (g.2.2.1 0, 3, .inl t_nameAt)), ((a_t 19), .inl (g.2.2.1 0, 3, .inl t_nameLong))] H → va_D A [((a_t 0), .inr (7, [.ref (a_t 1), .ref (a_t 2), .int t_acted, .ref (a_t 4), .ref (a_t 5), .ref (a_t 6), .ref (a_t 7), .ref (a_t 8), .ref (a_t 9), .int t_taped, .int x_t_faultKind, .int x_t_faultPlace, .int x_t_at, .int x_t_begin, .int x_t_token, .int x_t_value, .int x_t_bad, .ref (a_t 18), .ref (a_t 19), .ref (a_t 20), .int t_wide, .int t_lost, .ref (a_t 23), .long t_det, .ref (a_t 25), .int t_mask, .int t_mode, .int t_wanted, .int t_orders, .int t_foundAt, .long t_foundBy, .ref (a_t 32), .ref (a_t 33), .int t_unlikes, .ref (a_t 35), .ref (a_t 36)])), ((a_t 1), .inl (g.2.2.1 0, 27, .inl x_t_mem)), ((a_t 9), .inl (g.2.2.1 0, 600, .inl t_tape)), ((a_t 18), .inl (g.2.2.1 0, 3, .inl t_nameAt)), ((a_t 19), .inl (g.2.2.1 0, 3, .inl t_nameLong))] → va_S A s.heap H locs → W p l e ⟨9, 0, 0, 173⟩ s m args below meth c H locs 0 0 Q (F0 m pc ls []) := by
    intro u pc ls x_t_mem x_t_faultKind x_t_faultPlace x_t_at x_t_begin x_t_token x_t_value x_t_bad H locs hd h hP hD hS
    cases h
    exact hret u _ _ _ _ hd hP hD hS
  have w159 : ∀ (t_mem : Nat → Int32) (t_faultKind : Int32) (t_faultPlace : Int32) (t_at : Int32) (t_begin : Int32) (t_token : Int32) (t_value : Int32) (t_bad : Int32) (v1 : Int32) (v2 : Int32) (z1 : Int32) (H : Heap) (locs : List Loc), va_P g.2.1 vwCl [((a_t 0), .inr (7, [.ref (a_t 1), .ref (a_t 2), .int t_acted, .ref (a_t 4), .ref (a_t 5), .ref (a_t 6), .ref (a_t 7), .ref (a_t 8), .ref (a_t 9), .int t_taped, .int t_faultKind, .int t_faultPlace, .int t_at, .int t_begin, .int t_token, .int t_value, .int t_bad, .ref (a_t 18), .ref (a_t 19), .ref (a_t 20), .int t_wide, .int t_lost, .ref (a_t 23), .long t_det, .ref (a_t 25), .int t_mask, .int t_mode, .int t_wanted, .int t_orders, .int t_foundAt, .long t_foundBy, .ref (a_t 32), .ref (a_t 33), .int t_unlikes, .ref (a_t 35), .ref (a_t 36)])), ((a_t 1), .inl (g.2.2.1 0, 27, .inl t_mem)), ((a_t 9), .inl (g.2.2.1 0, 600, .inl t_tape)), ((a_t 18), .inl (g.2.2.1 0, 3, .inl t_nameAt)), ((a_t 19), .inl (g.2.2.1 0, 3, .inl t_nameLong))] H → va_D A [((a_t 0), .inr (7, [.ref (a_t 1), .ref (a_t 2), .int t_acted, .ref (a_t 4), .ref (a_t 5), .ref (a_t 6), .ref (a_t 7), .ref (a_t 8), .ref (a_t 9), .int t_taped, .int t_faultKind, .int t_faultPlace, .int t_at, .int t_begin, .int t_token, .int t_value, .int t_bad, .ref (a_t 18), .ref (a_t 19), .ref (a_t 20), .int t_wide, .int t_lost, .ref (a_t 23), .long t_det, .ref (a_t 25), .int t_mask, .int t_mode, .int t_wanted, .int t_orders, .int t_foundAt, .long t_foundBy, .ref (a_t 32), .ref (a_t 33), .int t_unlikes, .ref (a_t 35), .ref (a_t 36)])), ((a_t 1), .inl (g.2.2.1 0, 27, .inl t_mem)), ((a_t 9), .inl (g.2.2.1 0, 600, .inl t_tape)), ((a_t 18), .inl (g.2.2.1 0, 3, .inl t_nameAt)), ((a_t 19), .inl (g.2.2.1 0, 3, .inl t_nameLong))] → va_S A s.heap H locs → ∀ (ls : Array Slot), lv_has ls 3 [(0, .ref ((a_t 0))), (1, .int v1), (2, .int v2)] → fX8_readsPly_159  t_mem t_tape t_taped t_faultKind t_faultPlace t_at t_begin t_token t_value t_bad v1 v2 z1 = some (o_t_mem, o_t_faultKind, o_t_faultPlace, o_t_at, o_t_begin, o_t_token, o_t_value, o_t_bad) → W p l e ⟨9, 0, 0, 173⟩ s m args below meth c H locs 0 0 Q (F0 m 159 ls [.int z1, .ref ((a_t 0))]) := by
    intro t_mem t_faultKind t_faultPlace t_at t_begin t_token t_value t_bad v1 v2 z1 H locs hP hD hS ls hl h
    unfold fX8_readsPly_159 at h
    have hG := hGk hS
    obtain ⟨w57, w58, w59, w60, w61, w62, w63, hr56, h⟩ := ob7_out h
    refine rw_v (WN := fun u64 => [((a_t 1), .inl (g.2.2.1 0, 27, .inl t_mem)), ((a_t 18), .inl (g.2.2.1 0, 3, .inl t_nameAt)), ((a_t 19), .inl (g.2.2.1 0, 3, .inl t_nameLong)), ((a_t 0), .inr (7, [.ref (a_t 1), .ref (a_t 2), .int t_acted, .ref (a_t 4), .ref (a_t 5), .ref (a_t 6), .ref (a_t 7), .ref (a_t 8), .ref (a_t 9), .int t_taped, .int w57, .int w58, .int w59, .int w60, .int w61, .int w62, .int w63, .ref (a_t 18), .ref (a_t 19), .ref (a_t 20), .int t_wide, .int t_lost, .ref (a_t 23), .long t_det, .ref (a_t 25), .int t_mask, .int t_mode, .int t_wanted, .int t_orders, .int t_foundAt, .long t_foundBy, .ref (a_t 32), .ref (a_t 33), .int t_unlikes, .ref (a_t 35), .ref (a_t 36)])), ((a_t 9), .inl (g.2.2.1 0, 600, .inl t_tape))]) (wr := [((a_t 1), .inl (g.2.2.1 0, 27, .inl t_mem)), ((a_t 18), .inl (g.2.2.1 0, 3, .inl t_nameAt)), ((a_t 19), .inl (g.2.2.1 0, 3, .inl t_nameLong))]) (runV (As := [.int z1]) (rest := []) cx hl.1 (ctX8_passes l g H.size a_t t_acted t_taped t_faultKind t_faultPlace t_at t_begin t_token t_value t_bad t_wide t_lost t_det t_mask t_mode t_wanted t_orders t_foundAt t_foundBy t_unlikes t_tape z1 w57 w58 w59 w60 w61 w62 w63 hr56) kmX8_passes kvX8_passes lm_X8_132 ⟨rfl, rfl⟩ ⟨Nat.le_of_ble_eq_true rfl, Nat.le_of_ble_eq_true rfl⟩ (rwV (q0 := 0) (ci := 7) hG (hP.sub [0, 2] rfl) (hD.sub [0, 2] (by decide) rfl) hAb hb0 hS hP rfl rfl) rfl rfl (Nat.le_of_ble_eq_true rfl) dX8_readsPly_159 ⟨Nat.le_of_ble_eq_true rfl, Nat.le_of_ble_eq_true rfl⟩) hP hD hS hA [0, 2] [1, 3, 4] rfl rfl (by decide) (by decide) (fun _ => rfl) (fun u64 H locs hP hD hS => ?_)
    have hG := hGk hS
    refine lv_aload_n hx hb dX8_readsPly_162 rfl (lv_at hl 0 rfl) ?_
    refine xa_get (C := RX8) (T := TX8) (N := 36) cx hG hP 3 rfl rfl uX8 16 (by decide) lf_X8_108 rfl dX8_readsPly_163 ?_
    refine lv_if_ne (tgt := 198) hx hb dX8_readsPly_166 (by decide) (fun c65 => ?_) (fun c65 => ?_)
    · have h := itn c65 h
      exact hrt (fun _ => 0) _ _ t_mem w57 w58 w59 w60 w61 w62 w63 _ _ dX8_readsPly_198 h (hP.sub [3, 0, 4, 1, 2] rfl) (hD.sub [3, 0, 4, 1, 2] (by decide) rfl) hS
    · have h := itp c65 h
      refine lv_aload_n hx hb dX8_readsPly_169 rfl (lv_at hl 0 rfl) ?_
      refine xa_get (C := RX8) (T := TX8) (N := 36) cx hG hP 3 rfl rfl uX8 0 (by decide) lf_X8_21 rfl dX8_readsPly_170 ?_
      refine lv_bipush (v := 19) hx hb dX8_readsPly_173 (by decide) ?_
      refine lv_aload_n hx hb dX8_readsPly_175 rfl (lv_at hl 0 rfl) ?_
      refine xa_get (C := RX8) (T := TX8) (N := 36) cx hG hP 3 rfl rfl uX8 0 (by decide) lf_X8_21 rfl dX8_readsPly_176 ?_
      refine lv_iconst (v := 2) hx hb dX8_readsPly_179 (by decide) ?_
      refine xa_iald (k := 2) cx hG hP 0 rfl (show ¬ ((2 : Int32) < 0 ∨ 27 ≤ (2 : Int32).toNatClampNeg) by decide) (by decide) dX8_readsPly_180 ?_
      refine lv_iadd hx hb dX8_readsPly_181 ?_
      refine lv_iconst (v := 4) hx hb dX8_readsPly_182 (by decide) ?_
      refine lv_iload_n hx hb dX8_readsPly_183 rfl (lv_at hl 1 rfl) ?_
      refine lv_imul hx hb dX8_readsPly_184 ?_
      refine lv_iload_n hx hb dX8_readsPly_185 rfl (lv_at hl 2 rfl) ?_
      refine lv_iadd hx hb dX8_readsPly_186 ?_
      obtain ⟨hi66, h⟩ := chk_out h
      refine xw_iast (ws' := [((a_t 1), .inl (g.2.2.1 0, 27, .inl (upd t_mem ((19 + (t_mem 2)).toNatClampNeg) ((4 * v1) + v2)))), ((a_t 18), .inl (g.2.2.1 0, 3, .inl t_nameAt)), ((a_t 19), .inl (g.2.2.1 0, 3, .inl t_nameLong)), ((a_t 0), .inr (7, [.ref (a_t 1), .ref (a_t 2), .int t_acted, .ref (a_t 4), .ref (a_t 5), .ref (a_t 6), .ref (a_t 7), .ref (a_t 8), .ref (a_t 9), .int t_taped, .int w57, .int w58, .int w59, .int w60, .int w61, .int w62, .int w63, .ref (a_t 18), .ref (a_t 19), .ref (a_t 20), .int t_wide, .int t_lost, .ref (a_t 23), .long t_det, .ref (a_t 25), .int t_mask, .int t_mode, .int t_wanted, .int t_orders, .int t_foundAt, .long t_foundBy, .ref (a_t 32), .ref (a_t 33), .int t_unlikes, .ref (a_t 35), .ref (a_t 36)])), ((a_t 9), .inl (g.2.2.1 0, 600, .inl t_tape))]) (k := ((19 + (t_mem 2)).toNatClampNeg)) cx hG hP hD hS 0 rfl hi66 rfl rfl dX8_readsPly_187 (fun H locs hP hD hS => ?_)
      have hG := hGk hS
      refine lv_aload_n hx hb dX8_readsPly_188 rfl (lv_at hl 0 rfl) ?_
      refine xa_get (C := RX8) (T := TX8) (N := 36) cx hG hP 3 rfl rfl uX8 0 (by decide) lf_X8_21 rfl dX8_readsPly_189 ?_
      refine lv_iconst (v := 2) hx hb dX8_readsPly_192 (by decide) ?_
      refine lv_dup2_11 hx hb dX8_readsPly_193 rfl rfl ?_
      refine xa_iald (k := 2) cx hG hP 0 rfl (show ¬ ((2 : Int32) < 0 ∨ 27 ≤ (2 : Int32).toNatClampNeg) by decide) (by decide) dX8_readsPly_194 ?_
      refine lv_iconst (v := 1) hx hb dX8_readsPly_195 (by decide) ?_
      refine lv_iadd hx hb dX8_readsPly_196 ?_
      refine xw_iast (ws' := [((a_t 1), .inl (g.2.2.1 0, 27, .inl (upd (upd t_mem ((19 + (t_mem 2)).toNatClampNeg) ((4 * v1) + v2)) 2 (((upd t_mem ((19 + (t_mem 2)).toNatClampNeg) ((4 * v1) + v2)) 2) + 1)))), ((a_t 18), .inl (g.2.2.1 0, 3, .inl t_nameAt)), ((a_t 19), .inl (g.2.2.1 0, 3, .inl t_nameLong)), ((a_t 0), .inr (7, [.ref (a_t 1), .ref (a_t 2), .int t_acted, .ref (a_t 4), .ref (a_t 5), .ref (a_t 6), .ref (a_t 7), .ref (a_t 8), .ref (a_t 9), .int t_taped, .int w57, .int w58, .int w59, .int w60, .int w61, .int w62, .int w63, .ref (a_t 18), .ref (a_t 19), .ref (a_t 20), .int t_wide, .int t_lost, .ref (a_t 23), .long t_det, .ref (a_t 25), .int t_mask, .int t_mode, .int t_wanted, .int t_orders, .int t_foundAt, .long t_foundBy, .ref (a_t 32), .ref (a_t 33), .int t_unlikes, .ref (a_t 35), .ref (a_t 36)])), ((a_t 9), .inl (g.2.2.1 0, 600, .inl t_tape))]) (k := 2) cx hG hP hD hS 0 rfl (show ¬ ((2 : Int32) < 0 ∨ 27 ≤ (2 : Int32).toNatClampNeg) by decide) (by decide) rfl dX8_readsPly_197 (fun H locs hP hD hS => ?_)
      have hG := hGk hS
      exact hrt (fun _ => 0) _ _ (upd (upd t_mem ((19 + (t_mem 2)).toNatClampNeg) ((4 * v1) + v2)) 2 (((upd t_mem ((19 + (t_mem 2)).toNatClampNeg) ((4 * v1) + v2)) 2) + 1)) w57 w58 w59 w60 w61 w62 w63 _ _ dX8_readsPly_198 h (hP.sub [3, 0, 4, 1, 2] rfl) (hD.sub [3, 0, 4, 1, 2] (by decide) rfl) hS
  have w154 : ∀ (t_mem : Nat → Int32) (t_faultKind : Int32) (t_faultPlace : Int32) (t_at : Int32) (t_begin : Int32) (t_token : Int32) (t_value : Int32) (t_bad : Int32) (v1 : Int32) (v2 : Int32) (H : Heap) (locs : List Loc), va_P g.2.1 vwCl [((a_t 0), .inr (7, [.ref (a_t 1), .ref (a_t 2), .int t_acted, .ref (a_t 4), .ref (a_t 5), .ref (a_t 6), .ref (a_t 7), .ref (a_t 8), .ref (a_t 9), .int t_taped, .int t_faultKind, .int t_faultPlace, .int t_at, .int t_begin, .int t_token, .int t_value, .int t_bad, .ref (a_t 18), .ref (a_t 19), .ref (a_t 20), .int t_wide, .int t_lost, .ref (a_t 23), .long t_det, .ref (a_t 25), .int t_mask, .int t_mode, .int t_wanted, .int t_orders, .int t_foundAt, .long t_foundBy, .ref (a_t 32), .ref (a_t 33), .int t_unlikes, .ref (a_t 35), .ref (a_t 36)])), ((a_t 1), .inl (g.2.2.1 0, 27, .inl t_mem)), ((a_t 9), .inl (g.2.2.1 0, 600, .inl t_tape)), ((a_t 18), .inl (g.2.2.1 0, 3, .inl t_nameAt)), ((a_t 19), .inl (g.2.2.1 0, 3, .inl t_nameLong))] H → va_D A [((a_t 0), .inr (7, [.ref (a_t 1), .ref (a_t 2), .int t_acted, .ref (a_t 4), .ref (a_t 5), .ref (a_t 6), .ref (a_t 7), .ref (a_t 8), .ref (a_t 9), .int t_taped, .int t_faultKind, .int t_faultPlace, .int t_at, .int t_begin, .int t_token, .int t_value, .int t_bad, .ref (a_t 18), .ref (a_t 19), .ref (a_t 20), .int t_wide, .int t_lost, .ref (a_t 23), .long t_det, .ref (a_t 25), .int t_mask, .int t_mode, .int t_wanted, .int t_orders, .int t_foundAt, .long t_foundBy, .ref (a_t 32), .ref (a_t 33), .int t_unlikes, .ref (a_t 35), .ref (a_t 36)])), ((a_t 1), .inl (g.2.2.1 0, 27, .inl t_mem)), ((a_t 9), .inl (g.2.2.1 0, 600, .inl t_tape)), ((a_t 18), .inl (g.2.2.1 0, 3, .inl t_nameAt)), ((a_t 19), .inl (g.2.2.1 0, 3, .inl t_nameLong))] → va_S A s.heap H locs → ∀ (ls : Array Slot), lv_has ls 3 [(0, .ref ((a_t 0))), (1, .int v1), (2, .int v2)] → fX8_readsPly_154  t_mem t_tape t_taped t_faultKind t_faultPlace t_at t_begin t_token t_value t_bad v1 v2 = some (o_t_mem, o_t_faultKind, o_t_faultPlace, o_t_at, o_t_begin, o_t_token, o_t_value, o_t_bad) → W p l e ⟨9, 0, 0, 173⟩ s m args below meth c H locs 0 0 Q (F0 m 154 ls [.ref ((a_t 0))]) := by
    intro t_mem t_faultKind t_faultPlace t_at t_begin t_token t_value t_bad v1 v2 H locs hP hD hS ls hl h
    unfold fX8_readsPly_154 at h
    have hG := hGk hS
    refine lv_iconst (v := 1) hx hb dX8_readsPly_154 (by decide) ?_
    refine lv_goto (tgt := 159) hx hb dX8_readsPly_155 (by decide) ?_
    exact w159 t_mem t_faultKind t_faultPlace t_at t_begin t_token t_value t_bad v1 v2 1 _ _ hP hD hS _ (lv_sub hl [0, 1, 2] rfl) h
  have w140 : ∀ (t_mem : Nat → Int32) (t_faultKind : Int32) (t_faultPlace : Int32) (t_at : Int32) (t_begin : Int32) (t_token : Int32) (t_value : Int32) (t_bad : Int32) (v1 : Int32) (z0 : Int32) (H : Heap) (locs : List Loc), va_P g.2.1 vwCl [((a_t 0), .inr (7, [.ref (a_t 1), .ref (a_t 2), .int t_acted, .ref (a_t 4), .ref (a_t 5), .ref (a_t 6), .ref (a_t 7), .ref (a_t 8), .ref (a_t 9), .int t_taped, .int t_faultKind, .int t_faultPlace, .int t_at, .int t_begin, .int t_token, .int t_value, .int t_bad, .ref (a_t 18), .ref (a_t 19), .ref (a_t 20), .int t_wide, .int t_lost, .ref (a_t 23), .long t_det, .ref (a_t 25), .int t_mask, .int t_mode, .int t_wanted, .int t_orders, .int t_foundAt, .long t_foundBy, .ref (a_t 32), .ref (a_t 33), .int t_unlikes, .ref (a_t 35), .ref (a_t 36)])), ((a_t 1), .inl (g.2.2.1 0, 27, .inl t_mem)), ((a_t 9), .inl (g.2.2.1 0, 600, .inl t_tape)), ((a_t 18), .inl (g.2.2.1 0, 3, .inl t_nameAt)), ((a_t 19), .inl (g.2.2.1 0, 3, .inl t_nameLong))] H → va_D A [((a_t 0), .inr (7, [.ref (a_t 1), .ref (a_t 2), .int t_acted, .ref (a_t 4), .ref (a_t 5), .ref (a_t 6), .ref (a_t 7), .ref (a_t 8), .ref (a_t 9), .int t_taped, .int t_faultKind, .int t_faultPlace, .int t_at, .int t_begin, .int t_token, .int t_value, .int t_bad, .ref (a_t 18), .ref (a_t 19), .ref (a_t 20), .int t_wide, .int t_lost, .ref (a_t 23), .long t_det, .ref (a_t 25), .int t_mask, .int t_mode, .int t_wanted, .int t_orders, .int t_foundAt, .long t_foundBy, .ref (a_t 32), .ref (a_t 33), .int t_unlikes, .ref (a_t 35), .ref (a_t 36)])), ((a_t 1), .inl (g.2.2.1 0, 27, .inl t_mem)), ((a_t 9), .inl (g.2.2.1 0, 600, .inl t_tape)), ((a_t 18), .inl (g.2.2.1 0, 3, .inl t_nameAt)), ((a_t 19), .inl (g.2.2.1 0, 3, .inl t_nameLong))] → va_S A s.heap H locs → ∀ (ls : Array Slot), lv_has ls 3 [(0, .ref ((a_t 0))), (1, .int v1)] → fX8_readsPly_140  t_mem t_tape t_taped t_faultKind t_faultPlace t_at t_begin t_token t_value t_bad v1 z0 = some (o_t_mem, o_t_faultKind, o_t_faultPlace, o_t_at, o_t_begin, o_t_token, o_t_value, o_t_bad) → W p l e ⟨9, 0, 0, 173⟩ s m args below meth c H locs 0 0 Q (F0 m 140 ls [.int z0]) := by
    intro t_mem t_faultKind t_faultPlace t_at t_begin t_token t_value t_bad v1 z0 H locs hP hD hS ls hl h
    unfold fX8_readsPly_140 at h
    have hG := hGk hS
    refine lv_istore_n (lv' := [(2, .int z0), (0, .ref ((a_t 0))), (1, .int v1)]) hx hb dX8_readsPly_140 rfl hl (by decide) rfl (fun ls hl => ?_)
    refine lv_aload_n hx hb dX8_readsPly_141 rfl (lv_at hl 1 rfl) ?_
    refine lv_aload_n hx hb dX8_readsPly_142 rfl (lv_at hl 1 rfl) ?_
    refine xa_get (C := RX8) (T := TX8) (N := 36) cx hG hP 0 rfl rfl uX8 16 (by decide) lf_X8_108 rfl dX8_readsPly_143 ?_
    refine lv_if_ne (tgt := 154) hx hb dX8_readsPly_146 (by decide) (fun c54 => ?_) (fun c54 => ?_)
    · have h := itn c54 h
      exact w154 t_mem t_faultKind t_faultPlace t_at t_begin t_token t_value t_bad v1 z0 _ _ hP hD hS _ (lv_sub hl [1, 2, 0] rfl) h
    · have h := itp c54 h
      refine lv_iload_n hx hb dX8_readsPly_149 rfl (lv_at hl 0 rfl) ?_
      refine lv_iconst (v := -1) hx hb dX8_readsPly_150 (by decide) ?_
      refine lv_icmp_eq (tgt := 158) hx hb dX8_readsPly_151 (by decide) (fun c55 => ?_) (fun c55 => ?_)
      · have h := itp c55 h
        refine lv_iconst (v := 0) hx hb dX8_readsPly_158 (by decide) ?_
        exact w159 t_mem t_faultKind t_faultPlace t_at t_begin t_token t_value t_bad v1 z0 0 _ _ hP hD hS _ (lv_sub hl [1, 2, 0] rfl) h
      · have h := itn c55 h
        exact w154 t_mem t_faultKind t_faultPlace t_at t_begin t_token t_value t_bad v1 z0 _ _ hP hD hS _ (lv_sub hl [1, 2, 0] rfl) h
  have w84 : ∀ (t_mem : Nat → Int32) (t_faultKind : Int32) (t_faultPlace : Int32) (t_at : Int32) (t_begin : Int32) (t_token : Int32) (t_value : Int32) (t_bad : Int32) (v1 : Int32) (z1 : Int32) (H : Heap) (locs : List Loc), va_P g.2.1 vwCl [((a_t 0), .inr (7, [.ref (a_t 1), .ref (a_t 2), .int t_acted, .ref (a_t 4), .ref (a_t 5), .ref (a_t 6), .ref (a_t 7), .ref (a_t 8), .ref (a_t 9), .int t_taped, .int t_faultKind, .int t_faultPlace, .int t_at, .int t_begin, .int t_token, .int t_value, .int t_bad, .ref (a_t 18), .ref (a_t 19), .ref (a_t 20), .int t_wide, .int t_lost, .ref (a_t 23), .long t_det, .ref (a_t 25), .int t_mask, .int t_mode, .int t_wanted, .int t_orders, .int t_foundAt, .long t_foundBy, .ref (a_t 32), .ref (a_t 33), .int t_unlikes, .ref (a_t 35), .ref (a_t 36)])), ((a_t 1), .inl (g.2.2.1 0, 27, .inl t_mem)), ((a_t 9), .inl (g.2.2.1 0, 600, .inl t_tape)), ((a_t 18), .inl (g.2.2.1 0, 3, .inl t_nameAt)), ((a_t 19), .inl (g.2.2.1 0, 3, .inl t_nameLong))] H → va_D A [((a_t 0), .inr (7, [.ref (a_t 1), .ref (a_t 2), .int t_acted, .ref (a_t 4), .ref (a_t 5), .ref (a_t 6), .ref (a_t 7), .ref (a_t 8), .ref (a_t 9), .int t_taped, .int t_faultKind, .int t_faultPlace, .int t_at, .int t_begin, .int t_token, .int t_value, .int t_bad, .ref (a_t 18), .ref (a_t 19), .ref (a_t 20), .int t_wide, .int t_lost, .ref (a_t 23), .long t_det, .ref (a_t 25), .int t_mask, .int t_mode, .int t_wanted, .int t_orders, .int t_foundAt, .long t_foundBy, .ref (a_t 32), .ref (a_t 33), .int t_unlikes, .ref (a_t 35), .ref (a_t 36)])), ((a_t 1), .inl (g.2.2.1 0, 27, .inl t_mem)), ((a_t 9), .inl (g.2.2.1 0, 600, .inl t_tape)), ((a_t 18), .inl (g.2.2.1 0, 3, .inl t_nameAt)), ((a_t 19), .inl (g.2.2.1 0, 3, .inl t_nameLong))] → va_S A s.heap H locs → ∀ (ls : Array Slot), lv_has ls 3 [(0, .ref ((a_t 0))), (1, .int v1)] → fX8_readsPly_84  t_mem t_tape t_taped t_faultKind t_faultPlace t_at t_begin t_token t_value t_bad v1 z1 = some (o_t_mem, o_t_faultKind, o_t_faultPlace, o_t_at, o_t_begin, o_t_token, o_t_value, o_t_bad) → W p l e ⟨9, 0, 0, 173⟩ s m args below meth c H locs 0 0 Q (F0 m 84 ls [.int z1, .ref ((a_t 0))]) := by
    intro t_mem t_faultKind t_faultPlace t_at t_begin t_token t_value t_bad v1 z1 H locs hP hD hS ls hl h
    unfold fX8_readsPly_84 at h
    have hG := hGk hS
    obtain ⟨w30, w31, w32, w33, w34, w35, w36, hr29, h⟩ := ob7_out h
    refine rw_v (WN := fun u37 => [((a_t 1), .inl (g.2.2.1 0, 27, .inl t_mem)), ((a_t 18), .inl (g.2.2.1 0, 3, .inl t_nameAt)), ((a_t 19), .inl (g.2.2.1 0, 3, .inl t_nameLong)), ((a_t 0), .inr (7, [.ref (a_t 1), .ref (a_t 2), .int t_acted, .ref (a_t 4), .ref (a_t 5), .ref (a_t 6), .ref (a_t 7), .ref (a_t 8), .ref (a_t 9), .int t_taped, .int w30, .int w31, .int w32, .int w33, .int w34, .int w35, .int w36, .ref (a_t 18), .ref (a_t 19), .ref (a_t 20), .int t_wide, .int t_lost, .ref (a_t 23), .long t_det, .ref (a_t 25), .int t_mask, .int t_mode, .int t_wanted, .int t_orders, .int t_foundAt, .long t_foundBy, .ref (a_t 32), .ref (a_t 33), .int t_unlikes, .ref (a_t 35), .ref (a_t 36)])), ((a_t 9), .inl (g.2.2.1 0, 600, .inl t_tape))]) (wr := [((a_t 1), .inl (g.2.2.1 0, 27, .inl t_mem)), ((a_t 18), .inl (g.2.2.1 0, 3, .inl t_nameAt)), ((a_t 19), .inl (g.2.2.1 0, 3, .inl t_nameLong))]) (runV (As := [.int z1]) (rest := []) cx hl.1 (ctX8_passes l g H.size a_t t_acted t_taped t_faultKind t_faultPlace t_at t_begin t_token t_value t_bad t_wide t_lost t_det t_mask t_mode t_wanted t_orders t_foundAt t_foundBy t_unlikes t_tape z1 w30 w31 w32 w33 w34 w35 w36 hr29) kmX8_passes kvX8_passes lm_X8_132 ⟨rfl, rfl⟩ ⟨Nat.le_of_ble_eq_true rfl, Nat.le_of_ble_eq_true rfl⟩ (rwV (q0 := 0) (ci := 7) hG (hP.sub [0, 2] rfl) (hD.sub [0, 2] (by decide) rfl) hAb hb0 hS hP rfl rfl) rfl rfl (Nat.le_of_ble_eq_true rfl) dX8_readsPly_84 ⟨Nat.le_of_ble_eq_true rfl, Nat.le_of_ble_eq_true rfl⟩) hP hD hS hA [0, 2] [1, 3, 4] rfl rfl (by decide) (by decide) (fun _ => rfl) (fun u37 H locs hP hD hS => ?_)
    have hG := hGk hS
    refine lv_aload_n hx hb dX8_readsPly_87 rfl (lv_at hl 0 rfl) ?_
    refine va_ldcS (own := RX8) (tx := "flat") (q := g.2.2.2.2.1 9) hx hb cx.2.2.2.1 (GE_st hG sr_22) dX8_readsPly_88 ?_
    obtain ⟨r38, hr39, h⟩ := bnd h
    refine ro_z (runV (As := [.ref ((g.2.2.2.2.1 9))]) (rest := []) cx hl.1 (ctX8_isWord l g a_t t_acted t_taped w30 w31 w32 w33 w34 w35 w36 t_wide t_lost t_det t_mask t_mode t_wanted t_orders t_foundAt t_foundBy t_unlikes t_tape 9 (by decide) r38 hr39) kmX8_isWord kvX8_isWord lm_X8_136 ⟨rfl, rfl⟩ ⟨Nat.le_of_ble_eq_true rfl, Nat.le_of_ble_eq_true rfl⟩ (roV (q0 := 3) (ci := 7) hG (hP.sub [3, 4] rfl) hP rfl rfl) rfl rfl (Nat.le_of_ble_eq_true rfl) dX8_readsPly_90 ⟨Nat.le_of_ble_eq_true rfl, Nat.le_of_ble_eq_true rfl⟩) (fun hz40 => ?_)
    refine lv_if_eq (tgt := 100) hx hb dX8_readsPly_93 (by decide) (fun c41 => ?_) (fun c41 => ?_)
    · have h := itp c41 h
      refine lv_aload_n hx hb dX8_readsPly_100 rfl (lv_at hl 0 rfl) ?_
      refine va_ldcS (own := RX8) (tx := "rise") (q := g.2.2.2.2.1 10) hx hb cx.2.2.2.1 (GE_st hG sr_23) dX8_readsPly_101 ?_
      obtain ⟨r42, hr43, h⟩ := bnd h
      refine ro_z (runV (As := [.ref ((g.2.2.2.2.1 10))]) (rest := []) cx hl.1 (ctX8_isWord l g a_t t_acted t_taped w30 w31 w32 w33 w34 w35 w36 t_wide t_lost t_det t_mask t_mode t_wanted t_orders t_foundAt t_foundBy t_unlikes t_tape 10 (by decide) r42 hr43) kmX8_isWord kvX8_isWord lm_X8_136 ⟨rfl, rfl⟩ ⟨Nat.le_of_ble_eq_true rfl, Nat.le_of_ble_eq_true rfl⟩ (roV (q0 := 3) (ci := 7) hG (hP.sub [3, 4] rfl) hP rfl rfl) rfl rfl (Nat.le_of_ble_eq_true rfl) dX8_readsPly_103 ⟨Nat.le_of_ble_eq_true rfl, Nat.le_of_ble_eq_true rfl⟩) (fun hz44 => ?_)
      refine lv_if_eq (tgt := 113) hx hb dX8_readsPly_106 (by decide) (fun c45 => ?_) (fun c45 => ?_)
      · have h := itp c45 h
        refine lv_aload_n hx hb dX8_readsPly_113 rfl (lv_at hl 0 rfl) ?_
        refine va_ldcS (own := RX8) (tx := "fall") (q := g.2.2.2.2.1 11) hx hb cx.2.2.2.1 (GE_st hG sr_24) dX8_readsPly_114 ?_
        obtain ⟨r46, hr47, h⟩ := bnd h
        refine ro_z (runV (As := [.ref ((g.2.2.2.2.1 11))]) (rest := []) cx hl.1 (ctX8_isWord l g a_t t_acted t_taped w30 w31 w32 w33 w34 w35 w36 t_wide t_lost t_det t_mask t_mode t_wanted t_orders t_foundAt t_foundBy t_unlikes t_tape 11 (by decide) r46 hr47) kmX8_isWord kvX8_isWord lm_X8_136 ⟨rfl, rfl⟩ ⟨Nat.le_of_ble_eq_true rfl, Nat.le_of_ble_eq_true rfl⟩ (roV (q0 := 3) (ci := 7) hG (hP.sub [3, 4] rfl) hP rfl rfl) rfl rfl (Nat.le_of_ble_eq_true rfl) dX8_readsPly_116 ⟨Nat.le_of_ble_eq_true rfl, Nat.le_of_ble_eq_true rfl⟩) (fun hz48 => ?_)
        refine lv_if_eq (tgt := 126) hx hb dX8_readsPly_119 (by decide) (fun c49 => ?_) (fun c49 => ?_)
        · have h := itp c49 h
          refine lv_aload_n hx hb dX8_readsPly_126 rfl (lv_at hl 0 rfl) ?_
          refine va_ldcS (own := RX8) (tx := "cross") (q := g.2.2.2.2.1 12) hx hb cx.2.2.2.1 (GE_st hG sr_25) dX8_readsPly_127 ?_
          obtain ⟨r50, hr51, h⟩ := bnd h
          refine ro_z (runV (As := [.ref ((g.2.2.2.2.1 12))]) (rest := []) cx hl.1 (ctX8_isWord l g a_t t_acted t_taped w30 w31 w32 w33 w34 w35 w36 t_wide t_lost t_det t_mask t_mode t_wanted t_orders t_foundAt t_foundBy t_unlikes t_tape 12 (by decide) r50 hr51) kmX8_isWord kvX8_isWord lm_X8_136 ⟨rfl, rfl⟩ ⟨Nat.le_of_ble_eq_true rfl, Nat.le_of_ble_eq_true rfl⟩ (roV (q0 := 3) (ci := 7) hG (hP.sub [3, 4] rfl) hP rfl rfl) rfl rfl (Nat.le_of_ble_eq_true rfl) dX8_readsPly_129 ⟨Nat.le_of_ble_eq_true rfl, Nat.le_of_ble_eq_true rfl⟩) (fun hz52 => ?_)
          refine lv_if_eq (tgt := 139) hx hb dX8_readsPly_132 (by decide) (fun c53 => ?_) (fun c53 => ?_)
          · have h := itp c53 h
            refine lv_iconst (v := -1) hx hb dX8_readsPly_139 (by decide) ?_
            exact w140 t_mem w30 w31 w32 w33 w34 w35 w36 v1 (-1) _ _ (hP.sub [3, 0, 4, 1, 2] rfl) (hD.sub [3, 0, 4, 1, 2] (by decide) rfl) hS _ (lv_sub hl [0, 1] rfl) h
          · have h := itn c53 h
            refine lv_iconst (v := 3) hx hb dX8_readsPly_135 (by decide) ?_
            refine lv_goto (tgt := 140) hx hb dX8_readsPly_136 (by decide) ?_
            exact w140 t_mem w30 w31 w32 w33 w34 w35 w36 v1 3 _ _ (hP.sub [3, 0, 4, 1, 2] rfl) (hD.sub [3, 0, 4, 1, 2] (by decide) rfl) hS _ (lv_sub hl [0, 1] rfl) h
        · have h := itn c49 h
          refine lv_iconst (v := 2) hx hb dX8_readsPly_122 (by decide) ?_
          refine lv_goto (tgt := 140) hx hb dX8_readsPly_123 (by decide) ?_
          exact w140 t_mem w30 w31 w32 w33 w34 w35 w36 v1 2 _ _ (hP.sub [3, 0, 4, 1, 2] rfl) (hD.sub [3, 0, 4, 1, 2] (by decide) rfl) hS _ (lv_sub hl [0, 1] rfl) h
      · have h := itn c45 h
        refine lv_iconst (v := 1) hx hb dX8_readsPly_109 (by decide) ?_
        refine lv_goto (tgt := 140) hx hb dX8_readsPly_110 (by decide) ?_
        exact w140 t_mem w30 w31 w32 w33 w34 w35 w36 v1 1 _ _ (hP.sub [3, 0, 4, 1, 2] rfl) (hD.sub [3, 0, 4, 1, 2] (by decide) rfl) hS _ (lv_sub hl [0, 1] rfl) h
    · have h := itn c41 h
      refine lv_iconst (v := 0) hx hb dX8_readsPly_96 (by decide) ?_
      refine lv_goto (tgt := 140) hx hb dX8_readsPly_97 (by decide) ?_
      exact w140 t_mem w30 w31 w32 w33 w34 w35 w36 v1 0 _ _ (hP.sub [3, 0, 4, 1, 2] rfl) (hD.sub [3, 0, 4, 1, 2] (by decide) rfl) hS _ (lv_sub hl [0, 1] rfl) h
  have w79 : ∀ (t_mem : Nat → Int32) (t_faultKind : Int32) (t_faultPlace : Int32) (t_at : Int32) (t_begin : Int32) (t_token : Int32) (t_value : Int32) (t_bad : Int32) (v1 : Int32) (H : Heap) (locs : List Loc), va_P g.2.1 vwCl [((a_t 0), .inr (7, [.ref (a_t 1), .ref (a_t 2), .int t_acted, .ref (a_t 4), .ref (a_t 5), .ref (a_t 6), .ref (a_t 7), .ref (a_t 8), .ref (a_t 9), .int t_taped, .int t_faultKind, .int t_faultPlace, .int t_at, .int t_begin, .int t_token, .int t_value, .int t_bad, .ref (a_t 18), .ref (a_t 19), .ref (a_t 20), .int t_wide, .int t_lost, .ref (a_t 23), .long t_det, .ref (a_t 25), .int t_mask, .int t_mode, .int t_wanted, .int t_orders, .int t_foundAt, .long t_foundBy, .ref (a_t 32), .ref (a_t 33), .int t_unlikes, .ref (a_t 35), .ref (a_t 36)])), ((a_t 1), .inl (g.2.2.1 0, 27, .inl t_mem)), ((a_t 9), .inl (g.2.2.1 0, 600, .inl t_tape)), ((a_t 18), .inl (g.2.2.1 0, 3, .inl t_nameAt)), ((a_t 19), .inl (g.2.2.1 0, 3, .inl t_nameLong))] H → va_D A [((a_t 0), .inr (7, [.ref (a_t 1), .ref (a_t 2), .int t_acted, .ref (a_t 4), .ref (a_t 5), .ref (a_t 6), .ref (a_t 7), .ref (a_t 8), .ref (a_t 9), .int t_taped, .int t_faultKind, .int t_faultPlace, .int t_at, .int t_begin, .int t_token, .int t_value, .int t_bad, .ref (a_t 18), .ref (a_t 19), .ref (a_t 20), .int t_wide, .int t_lost, .ref (a_t 23), .long t_det, .ref (a_t 25), .int t_mask, .int t_mode, .int t_wanted, .int t_orders, .int t_foundAt, .long t_foundBy, .ref (a_t 32), .ref (a_t 33), .int t_unlikes, .ref (a_t 35), .ref (a_t 36)])), ((a_t 1), .inl (g.2.2.1 0, 27, .inl t_mem)), ((a_t 9), .inl (g.2.2.1 0, 600, .inl t_tape)), ((a_t 18), .inl (g.2.2.1 0, 3, .inl t_nameAt)), ((a_t 19), .inl (g.2.2.1 0, 3, .inl t_nameLong))] → va_S A s.heap H locs → ∀ (ls : Array Slot), lv_has ls 3 [(0, .ref ((a_t 0))), (1, .int v1)] → fX8_readsPly_79  t_mem t_tape t_taped t_faultKind t_faultPlace t_at t_begin t_token t_value t_bad v1 = some (o_t_mem, o_t_faultKind, o_t_faultPlace, o_t_at, o_t_begin, o_t_token, o_t_value, o_t_bad) → W p l e ⟨9, 0, 0, 173⟩ s m args below meth c H locs 0 0 Q (F0 m 79 ls [.ref ((a_t 0))]) := by
    intro t_mem t_faultKind t_faultPlace t_at t_begin t_token t_value t_bad v1 H locs hP hD hS ls hl h
    unfold fX8_readsPly_79 at h
    have hG := hGk hS
    refine lv_iconst (v := 1) hx hb dX8_readsPly_79 (by decide) ?_
    refine lv_goto (tgt := 84) hx hb dX8_readsPly_80 (by decide) ?_
    exact w84 t_mem t_faultKind t_faultPlace t_at t_begin t_token t_value t_bad v1 1 _ _ hP hD hS _ (lv_sub hl [0, 1] rfl) h
  have w63 : ∀ (t_mem : Nat → Int32) (t_faultKind : Int32) (t_faultPlace : Int32) (t_at : Int32) (t_begin : Int32) (t_token : Int32) (t_value : Int32) (t_bad : Int32) (v1 : Int32) (H : Heap) (locs : List Loc), va_P g.2.1 vwCl [((a_t 0), .inr (7, [.ref (a_t 1), .ref (a_t 2), .int t_acted, .ref (a_t 4), .ref (a_t 5), .ref (a_t 6), .ref (a_t 7), .ref (a_t 8), .ref (a_t 9), .int t_taped, .int t_faultKind, .int t_faultPlace, .int t_at, .int t_begin, .int t_token, .int t_value, .int t_bad, .ref (a_t 18), .ref (a_t 19), .ref (a_t 20), .int t_wide, .int t_lost, .ref (a_t 23), .long t_det, .ref (a_t 25), .int t_mask, .int t_mode, .int t_wanted, .int t_orders, .int t_foundAt, .long t_foundBy, .ref (a_t 32), .ref (a_t 33), .int t_unlikes, .ref (a_t 35), .ref (a_t 36)])), ((a_t 1), .inl (g.2.2.1 0, 27, .inl t_mem)), ((a_t 9), .inl (g.2.2.1 0, 600, .inl t_tape)), ((a_t 18), .inl (g.2.2.1 0, 3, .inl t_nameAt)), ((a_t 19), .inl (g.2.2.1 0, 3, .inl t_nameLong))] H → va_D A [((a_t 0), .inr (7, [.ref (a_t 1), .ref (a_t 2), .int t_acted, .ref (a_t 4), .ref (a_t 5), .ref (a_t 6), .ref (a_t 7), .ref (a_t 8), .ref (a_t 9), .int t_taped, .int t_faultKind, .int t_faultPlace, .int t_at, .int t_begin, .int t_token, .int t_value, .int t_bad, .ref (a_t 18), .ref (a_t 19), .ref (a_t 20), .int t_wide, .int t_lost, .ref (a_t 23), .long t_det, .ref (a_t 25), .int t_mask, .int t_mode, .int t_wanted, .int t_orders, .int t_foundAt, .long t_foundBy, .ref (a_t 32), .ref (a_t 33), .int t_unlikes, .ref (a_t 35), .ref (a_t 36)])), ((a_t 1), .inl (g.2.2.1 0, 27, .inl t_mem)), ((a_t 9), .inl (g.2.2.1 0, 600, .inl t_tape)), ((a_t 18), .inl (g.2.2.1 0, 3, .inl t_nameAt)), ((a_t 19), .inl (g.2.2.1 0, 3, .inl t_nameLong))] → va_S A s.heap H locs → ∀ (ls : Array Slot), lv_has ls 3 [(0, .ref ((a_t 0))), (1, .int v1)] → fX8_readsPly_63  t_mem t_tape t_taped t_faultKind t_faultPlace t_at t_begin t_token t_value t_bad v1 = some (o_t_mem, o_t_faultKind, o_t_faultPlace, o_t_at, o_t_begin, o_t_token, o_t_value, o_t_bad) → W p l e ⟨9, 0, 0, 173⟩ s m args below meth c H locs 0 0 Q (F0 m 63 ls []) := by
    intro t_mem t_faultKind t_faultPlace t_at t_begin t_token t_value t_bad v1 H locs hP hD hS ls hl h
    unfold fX8_readsPly_63 at h
    have hG := hGk hS
    refine lv_aload_n hx hb dX8_readsPly_63 rfl (lv_at hl 0 rfl) ?_
    refine lv_aload_n hx hb dX8_readsPly_64 rfl (lv_at hl 0 rfl) ?_
    refine xa_get (C := RX8) (T := TX8) (N := 36) cx hG hP 0 rfl rfl uX8 16 (by decide) lf_X8_108 rfl dX8_readsPly_65 ?_
    refine lv_if_ne (tgt := 79) hx hb dX8_readsPly_68 (by decide) (fun c27 => ?_) (fun c27 => ?_)
    · have h := itn c27 h
      exact w79 t_mem t_faultKind t_faultPlace t_at t_begin t_token t_value t_bad v1 _ _ hP hD hS _ (lv_sub hl [0, 1] rfl) h
    · have h := itp c27 h
      refine lv_aload_n hx hb dX8_readsPly_71 rfl (lv_at hl 0 rfl) ?_
      refine xa_get (C := RX8) (T := TX8) (N := 36) cx hG hP 0 rfl rfl uX8 14 (by decide) lf_X8_100 rfl dX8_readsPly_72 ?_
      refine lv_iconst (v := 1) hx hb dX8_readsPly_75 (by decide) ?_
      refine lv_icmp_ne (tgt := 83) hx hb dX8_readsPly_76 (by decide) (fun c28 => ?_) (fun c28 => ?_)
      · have h := itn c28 h
        refine lv_iconst (v := 0) hx hb dX8_readsPly_83 (by decide) ?_
        exact w84 t_mem t_faultKind t_faultPlace t_at t_begin t_token t_value t_bad v1 0 _ _ hP hD hS _ (lv_sub hl [0, 1] rfl) h
      · have h := itp c28 h
        exact w79 t_mem t_faultKind t_faultPlace t_at t_begin t_token t_value t_bad v1 _ _ hP hD hS _ (lv_sub hl [0, 1] rfl) h
  have w37 : ∀ (t_mem : Nat → Int32) (t_faultKind : Int32) (t_faultPlace : Int32) (t_at : Int32) (t_begin : Int32) (t_token : Int32) (t_value : Int32) (t_bad : Int32) (z0 : Int32) (H : Heap) (locs : List Loc), va_P g.2.1 vwCl [((a_t 0), .inr (7, [.ref (a_t 1), .ref (a_t 2), .int t_acted, .ref (a_t 4), .ref (a_t 5), .ref (a_t 6), .ref (a_t 7), .ref (a_t 8), .ref (a_t 9), .int t_taped, .int t_faultKind, .int t_faultPlace, .int t_at, .int t_begin, .int t_token, .int t_value, .int t_bad, .ref (a_t 18), .ref (a_t 19), .ref (a_t 20), .int t_wide, .int t_lost, .ref (a_t 23), .long t_det, .ref (a_t 25), .int t_mask, .int t_mode, .int t_wanted, .int t_orders, .int t_foundAt, .long t_foundBy, .ref (a_t 32), .ref (a_t 33), .int t_unlikes, .ref (a_t 35), .ref (a_t 36)])), ((a_t 1), .inl (g.2.2.1 0, 27, .inl t_mem)), ((a_t 9), .inl (g.2.2.1 0, 600, .inl t_tape)), ((a_t 18), .inl (g.2.2.1 0, 3, .inl t_nameAt)), ((a_t 19), .inl (g.2.2.1 0, 3, .inl t_nameLong))] H → va_D A [((a_t 0), .inr (7, [.ref (a_t 1), .ref (a_t 2), .int t_acted, .ref (a_t 4), .ref (a_t 5), .ref (a_t 6), .ref (a_t 7), .ref (a_t 8), .ref (a_t 9), .int t_taped, .int t_faultKind, .int t_faultPlace, .int t_at, .int t_begin, .int t_token, .int t_value, .int t_bad, .ref (a_t 18), .ref (a_t 19), .ref (a_t 20), .int t_wide, .int t_lost, .ref (a_t 23), .long t_det, .ref (a_t 25), .int t_mask, .int t_mode, .int t_wanted, .int t_orders, .int t_foundAt, .long t_foundBy, .ref (a_t 32), .ref (a_t 33), .int t_unlikes, .ref (a_t 35), .ref (a_t 36)])), ((a_t 1), .inl (g.2.2.1 0, 27, .inl t_mem)), ((a_t 9), .inl (g.2.2.1 0, 600, .inl t_tape)), ((a_t 18), .inl (g.2.2.1 0, 3, .inl t_nameAt)), ((a_t 19), .inl (g.2.2.1 0, 3, .inl t_nameLong))] → va_S A s.heap H locs → ∀ (ls : Array Slot), lv_has ls 3 [(0, .ref ((a_t 0)))] → fX8_readsPly_37  t_mem t_tape t_taped t_faultKind t_faultPlace t_at t_begin t_token t_value t_bad z0 = some (o_t_mem, o_t_faultKind, o_t_faultPlace, o_t_at, o_t_begin, o_t_token, o_t_value, o_t_bad) → W p l e ⟨9, 0, 0, 173⟩ s m args below meth c H locs 0 0 Q (F0 m 37 ls [.int z0]) := by
    intro t_mem t_faultKind t_faultPlace t_at t_begin t_token t_value t_bad z0 H locs hP hD hS ls hl h
    unfold fX8_readsPly_37 at h
    have hG := hGk hS
    refine lv_istore_n (lv' := [(1, .int z0), (0, .ref ((a_t 0)))]) hx hb dX8_readsPly_37 rfl hl (by decide) rfl (fun ls hl => ?_)
    refine lv_aload_n hx hb dX8_readsPly_38 rfl (lv_at hl 1 rfl) ?_
    refine xa_get (C := RX8) (T := TX8) (N := 36) cx hG hP 0 rfl rfl uX8 16 (by decide) lf_X8_108 rfl dX8_readsPly_39 ?_
    refine lv_if_ne (tgt := 63) hx hb dX8_readsPly_42 (by decide) (fun c19 => ?_) (fun c19 => ?_)
    · have h := itn c19 h
      exact w63 t_mem t_faultKind t_faultPlace t_at t_begin t_token t_value t_bad z0 _ _ hP hD hS _ (lv_sub hl [1, 0] rfl) h
    · have h := itp c19 h
      refine lv_aload_n hx hb dX8_readsPly_45 rfl (lv_at hl 1 rfl) ?_
      refine xa_get (C := RX8) (T := TX8) (N := 36) cx hG hP 0 rfl rfl uX8 14 (by decide) lf_X8_100 rfl dX8_readsPly_46 ?_
      refine lv_iconst (v := 1) hx hb dX8_readsPly_49 (by decide) ?_
      refine lv_icmp_ne (tgt := 63) hx hb dX8_readsPly_50 (by decide) (fun c20 => ?_) (fun c20 => ?_)
      · have h := itn c20 h
        exact w63 t_mem t_faultKind t_faultPlace t_at t_begin t_token t_value t_bad z0 _ _ hP hD hS _ (lv_sub hl [1, 0] rfl) h
      · have h := itp c20 h
        refine lv_iload_n hx hb dX8_readsPly_53 rfl (lv_at hl 0 rfl) ?_
        refine lv_iconst (v := -1) hx hb dX8_readsPly_54 (by decide) ?_
        refine lv_icmp_ne (tgt := 63) hx hb dX8_readsPly_55 (by decide) (fun c21 => ?_) (fun c21 => ?_)
        · have h := itn c21 h
          exact w63 t_mem t_faultKind t_faultPlace t_at t_begin t_token t_value t_bad z0 _ _ hP hD hS _ (lv_sub hl [1, 0] rfl) h
        · have h := itp c21 h
          refine lv_aload_n hx hb dX8_readsPly_58 rfl (lv_at hl 1 rfl) ?_
          refine lv_iconst (v := 2) hx hb dX8_readsPly_59 (by decide) ?_
          obtain ⟨w23, w24, w25, hr22, h⟩ := ob3_out h
          refine rw_v (WN := fun u26 => [((a_t 1), .inl (g.2.2.1 0, 27, .inl t_mem)), ((a_t 9), .inl (g.2.2.1 0, 600, .inl t_tape)), ((a_t 18), .inl (g.2.2.1 0, 3, .inl t_nameAt)), ((a_t 19), .inl (g.2.2.1 0, 3, .inl t_nameLong)), ((a_t 0), .inr (7, [.ref (a_t 1), .ref (a_t 2), .int t_acted, .ref (a_t 4), .ref (a_t 5), .ref (a_t 6), .ref (a_t 7), .ref (a_t 8), .ref (a_t 9), .int t_taped, .int w23, .int w24, .int t_at, .int t_begin, .int t_token, .int t_value, .int w25, .ref (a_t 18), .ref (a_t 19), .ref (a_t 20), .int t_wide, .int t_lost, .ref (a_t 23), .long t_det, .ref (a_t 25), .int t_mask, .int t_mode, .int t_wanted, .int t_orders, .int t_foundAt, .long t_foundBy, .ref (a_t 32), .ref (a_t 33), .int t_unlikes, .ref (a_t 35), .ref (a_t 36)]))]) (wr := [((a_t 1), .inl (g.2.2.1 0, 27, .inl t_mem)), ((a_t 9), .inl (g.2.2.1 0, 600, .inl t_tape)), ((a_t 18), .inl (g.2.2.1 0, 3, .inl t_nameAt)), ((a_t 19), .inl (g.2.2.1 0, 3, .inl t_nameLong))]) (runV (As := [.int (2)]) (rest := []) cx hl.1 (ctX8_faults l g H.size a_t t_acted t_taped t_faultKind t_faultPlace t_at t_begin t_token t_value t_bad t_wide t_lost t_det t_mask t_mode t_wanted t_orders t_foundAt t_foundBy t_unlikes (2) w23 w24 w25 hr22) kmX8_faults kvX8_faults lm_X8_125 ⟨rfl, rfl⟩ ⟨Nat.le_of_ble_eq_true rfl, Nat.le_of_ble_eq_true rfl⟩ (rwV (q0 := 0) (ci := 7) hG (hP.sub [0] rfl) (hD.sub [0] (by decide) rfl) hAb hb0 hS hP rfl rfl) rfl rfl (Nat.le_of_ble_eq_true rfl) dX8_readsPly_60 ⟨Nat.le_of_ble_eq_true rfl, Nat.le_of_ble_eq_true rfl⟩) hP hD hS hA [0] [1, 2, 3, 4] rfl rfl (by decide) (by decide) (fun _ => rfl) (fun u26 H locs hP hD hS => ?_)
          have hG := hGk hS
          exact w63 t_mem w23 w24 t_at t_begin t_token t_value w25 z0 _ _ (hP.sub [4, 0, 1, 2, 3] rfl) (hD.sub [4, 0, 1, 2, 3] (by decide) rfl) hS _ (lv_sub hl [1, 0] rfl) h
  have w16 : ∀ (t_mem : Nat → Int32) (t_faultKind : Int32) (t_faultPlace : Int32) (t_at : Int32) (t_begin : Int32) (t_token : Int32) (t_value : Int32) (t_bad : Int32) (H : Heap) (locs : List Loc), va_P g.2.1 vwCl [((a_t 0), .inr (7, [.ref (a_t 1), .ref (a_t 2), .int t_acted, .ref (a_t 4), .ref (a_t 5), .ref (a_t 6), .ref (a_t 7), .ref (a_t 8), .ref (a_t 9), .int t_taped, .int t_faultKind, .int t_faultPlace, .int t_at, .int t_begin, .int t_token, .int t_value, .int t_bad, .ref (a_t 18), .ref (a_t 19), .ref (a_t 20), .int t_wide, .int t_lost, .ref (a_t 23), .long t_det, .ref (a_t 25), .int t_mask, .int t_mode, .int t_wanted, .int t_orders, .int t_foundAt, .long t_foundBy, .ref (a_t 32), .ref (a_t 33), .int t_unlikes, .ref (a_t 35), .ref (a_t 36)])), ((a_t 1), .inl (g.2.2.1 0, 27, .inl t_mem)), ((a_t 9), .inl (g.2.2.1 0, 600, .inl t_tape)), ((a_t 18), .inl (g.2.2.1 0, 3, .inl t_nameAt)), ((a_t 19), .inl (g.2.2.1 0, 3, .inl t_nameLong))] H → va_D A [((a_t 0), .inr (7, [.ref (a_t 1), .ref (a_t 2), .int t_acted, .ref (a_t 4), .ref (a_t 5), .ref (a_t 6), .ref (a_t 7), .ref (a_t 8), .ref (a_t 9), .int t_taped, .int t_faultKind, .int t_faultPlace, .int t_at, .int t_begin, .int t_token, .int t_value, .int t_bad, .ref (a_t 18), .ref (a_t 19), .ref (a_t 20), .int t_wide, .int t_lost, .ref (a_t 23), .long t_det, .ref (a_t 25), .int t_mask, .int t_mode, .int t_wanted, .int t_orders, .int t_foundAt, .long t_foundBy, .ref (a_t 32), .ref (a_t 33), .int t_unlikes, .ref (a_t 35), .ref (a_t 36)])), ((a_t 1), .inl (g.2.2.1 0, 27, .inl t_mem)), ((a_t 9), .inl (g.2.2.1 0, 600, .inl t_tape)), ((a_t 18), .inl (g.2.2.1 0, 3, .inl t_nameAt)), ((a_t 19), .inl (g.2.2.1 0, 3, .inl t_nameLong))] → va_S A s.heap H locs → ∀ (ls : Array Slot), lv_has ls 3 [(0, .ref ((a_t 0)))] → fX8_readsPly_16  t_mem t_tape t_taped t_faultKind t_faultPlace t_at t_begin t_token t_value t_bad t_nameAt t_nameLong = some (o_t_mem, o_t_faultKind, o_t_faultPlace, o_t_at, o_t_begin, o_t_token, o_t_value, o_t_bad) → W p l e ⟨9, 0, 0, 173⟩ s m args below meth c H locs 0 0 Q (F0 m 16 ls []) := by
    intro t_mem t_faultKind t_faultPlace t_at t_begin t_token t_value t_bad H locs hP hD hS ls hl h
    unfold fX8_readsPly_16 at h
    have hG := hGk hS
    refine lv_aload_n hx hb dX8_readsPly_16 rfl (lv_at hl 0 rfl) ?_
    refine lv_iconst (v := 1) hx hb dX8_readsPly_17 (by decide) ?_
    obtain ⟨w8, w9, w10, w11, w12, w13, w14, hr7, h⟩ := ob7_out h
    refine rw_v (WN := fun u15 => [((a_t 1), .inl (g.2.2.1 0, 27, .inl t_mem)), ((a_t 18), .inl (g.2.2.1 0, 3, .inl t_nameAt)), ((a_t 19), .inl (g.2.2.1 0, 3, .inl t_nameLong)), ((a_t 0), .inr (7, [.ref (a_t 1), .ref (a_t 2), .int t_acted, .ref (a_t 4), .ref (a_t 5), .ref (a_t 6), .ref (a_t 7), .ref (a_t 8), .ref (a_t 9), .int t_taped, .int w8, .int w9, .int w10, .int w11, .int w12, .int w13, .int w14, .ref (a_t 18), .ref (a_t 19), .ref (a_t 20), .int t_wide, .int t_lost, .ref (a_t 23), .long t_det, .ref (a_t 25), .int t_mask, .int t_mode, .int t_wanted, .int t_orders, .int t_foundAt, .long t_foundBy, .ref (a_t 32), .ref (a_t 33), .int t_unlikes, .ref (a_t 35), .ref (a_t 36)])), ((a_t 9), .inl (g.2.2.1 0, 600, .inl t_tape))]) (wr := [((a_t 1), .inl (g.2.2.1 0, 27, .inl t_mem)), ((a_t 18), .inl (g.2.2.1 0, 3, .inl t_nameAt)), ((a_t 19), .inl (g.2.2.1 0, 3, .inl t_nameLong))]) (runV (As := [.int (1)]) (rest := []) cx hl.1 (ctX8_passes l g H.size a_t t_acted t_taped t_faultKind t_faultPlace t_at t_begin t_token t_value t_bad t_wide t_lost t_det t_mask t_mode t_wanted t_orders t_foundAt t_foundBy t_unlikes t_tape (1) w8 w9 w10 w11 w12 w13 w14 hr7) kmX8_passes kvX8_passes lm_X8_132 ⟨rfl, rfl⟩ ⟨Nat.le_of_ble_eq_true rfl, Nat.le_of_ble_eq_true rfl⟩ (rwV (q0 := 0) (ci := 7) hG (hP.sub [0, 2] rfl) (hD.sub [0, 2] (by decide) rfl) hAb hb0 hS hP rfl rfl) rfl rfl (Nat.le_of_ble_eq_true rfl) dX8_readsPly_18 ⟨Nat.le_of_ble_eq_true rfl, Nat.le_of_ble_eq_true rfl⟩) hP hD hS hA [0, 2] [1, 3, 4] rfl rfl (by decide) (by decide) (fun _ => rfl) (fun u15 H locs hP hD hS => ?_)
    have hG := hGk hS
    refine lv_aload_n hx hb dX8_readsPly_21 rfl (lv_at hl 0 rfl) ?_
    refine xa_get (C := RX8) (T := TX8) (N := 36) cx hG hP 3 rfl rfl uX8 14 (by decide) lf_X8_100 rfl dX8_readsPly_22 ?_
    refine lv_iconst (v := 1) hx hb dX8_readsPly_25 (by decide) ?_
    refine lv_icmp_ne (tgt := 36) hx hb dX8_readsPly_26 (by decide) (fun c16 => ?_) (fun c16 => ?_)
    · have h := itn c16 h
      refine lv_iconst (v := -1) hx hb dX8_readsPly_36 (by decide) ?_
      exact w37 t_mem w8 w9 w10 w11 w12 w13 w14 (-1) _ _ (hP.sub [3, 0, 4, 1, 2] rfl) (hD.sub [3, 0, 4, 1, 2] (by decide) rfl) hS _ (lv_sub hl [0] rfl) h
    · have h := itp c16 h
      refine lv_aload_n hx hb dX8_readsPly_29 rfl (lv_at hl 0 rfl) ?_
      obtain ⟨r17, hr18, h⟩ := bnd h
      refine ro_i (runV (As := []) (rest := []) cx hl.1 (ctX8_kindHere l g a_t t_acted t_taped w8 w9 w10 w11 w12 w13 w14 t_wide t_lost t_det t_mask t_mode t_wanted t_orders t_foundAt t_foundBy t_unlikes t_mem t_tape t_nameAt t_nameLong r17 hr18) kmX8_kindHere kvX8_kindHere lm_X8_155 ⟨rfl, rfl⟩ ⟨Nat.le_of_ble_eq_true rfl, Nat.le_of_ble_eq_true rfl⟩ (roV (q0 := 3) (ci := 7) hG (hP.sub [3, 0, 4, 1, 2] rfl) hP rfl rfl) rfl rfl (Nat.le_of_ble_eq_true rfl) dX8_readsPly_30 ⟨Nat.le_of_ble_eq_true rfl, Nat.le_of_ble_eq_true rfl⟩) ?_
      refine lv_goto (tgt := 37) hx hb dX8_readsPly_33 (by decide) ?_
      exact w37 t_mem w8 w9 w10 w11 w12 w13 w14 r17 _ _ (hP.sub [3, 0, 4, 1, 2] rfl) (hD.sub [3, 0, 4, 1, 2] (by decide) rfl) hS _ (lv_sub hl [0] rfl) h
  unfold fX8_readsPly at h
  refine lv_aload_n hx hb dX8_readsPly_0 rfl (lv_at hl 0 rfl) ?_
  refine xa_get (C := RX8) (T := TX8) (N := 36) cx hG hP 0 rfl rfl uX8 0 (by decide) lf_X8_21 rfl dX8_readsPly_1 ?_
  refine lv_iconst (v := 2) hx hb dX8_readsPly_4 (by decide) ?_
  refine xa_iald (k := 2) cx hG hP 1 rfl (show ¬ ((2 : Int32) < 0 ∨ 27 ≤ (2 : Int32).toNatClampNeg) by decide) (by decide) dX8_readsPly_5 ?_
  refine lv_bipush (v := 8) hx hb dX8_readsPly_6 (by decide) ?_
  refine lv_icmp_ne (tgt := 16) hx hb dX8_readsPly_8 (by decide) (fun c1 => ?_) (fun c1 => ?_)
  · have h := itn c1 h
    exact w16 t_mem t_faultKind t_faultPlace t_at t_begin t_token t_value t_bad _ _ hP hD hS _ (lv_sub hl [0] rfl) h
  · have h := itp c1 h
    refine lv_aload_n hx hb dX8_readsPly_11 rfl (lv_at hl 0 rfl) ?_
    refine lv_iconst (v := 3) hx hb dX8_readsPly_12 (by decide) ?_
    obtain ⟨w3, w4, w5, hr2, h⟩ := ob3_out h
    refine rw_v (WN := fun u6 => [((a_t 1), .inl (g.2.2.1 0, 27, .inl t_mem)), ((a_t 9), .inl (g.2.2.1 0, 600, .inl t_tape)), ((a_t 18), .inl (g.2.2.1 0, 3, .inl t_nameAt)), ((a_t 19), .inl (g.2.2.1 0, 3, .inl t_nameLong)), ((a_t 0), .inr (7, [.ref (a_t 1), .ref (a_t 2), .int t_acted, .ref (a_t 4), .ref (a_t 5), .ref (a_t 6), .ref (a_t 7), .ref (a_t 8), .ref (a_t 9), .int t_taped, .int w3, .int w4, .int t_at, .int t_begin, .int t_token, .int t_value, .int w5, .ref (a_t 18), .ref (a_t 19), .ref (a_t 20), .int t_wide, .int t_lost, .ref (a_t 23), .long t_det, .ref (a_t 25), .int t_mask, .int t_mode, .int t_wanted, .int t_orders, .int t_foundAt, .long t_foundBy, .ref (a_t 32), .ref (a_t 33), .int t_unlikes, .ref (a_t 35), .ref (a_t 36)]))]) (wr := [((a_t 1), .inl (g.2.2.1 0, 27, .inl t_mem)), ((a_t 9), .inl (g.2.2.1 0, 600, .inl t_tape)), ((a_t 18), .inl (g.2.2.1 0, 3, .inl t_nameAt)), ((a_t 19), .inl (g.2.2.1 0, 3, .inl t_nameLong))]) (runV (As := [.int (3)]) (rest := []) cx hl.1 (ctX8_faults l g s.heap.size a_t t_acted t_taped t_faultKind t_faultPlace t_at t_begin t_token t_value t_bad t_wide t_lost t_det t_mask t_mode t_wanted t_orders t_foundAt t_foundBy t_unlikes (3) w3 w4 w5 hr2) kmX8_faults kvX8_faults lm_X8_125 ⟨rfl, rfl⟩ ⟨Nat.le_of_ble_eq_true rfl, Nat.le_of_ble_eq_true rfl⟩ (rwV (q0 := 0) (ci := 7) hG (hP.sub [0] rfl) (hD.sub [0] (by decide) rfl) hAb hb0 hS hP rfl rfl) rfl rfl (Nat.le_of_ble_eq_true rfl) dX8_readsPly_13 ⟨Nat.le_of_ble_eq_true rfl, Nat.le_of_ble_eq_true rfl⟩) hP hD hS hA [0] [1, 2, 3, 4] rfl rfl (by decide) (by decide) (fun _ => rfl) (fun u6 H locs hP hD hS => ?_)
    have hG := hGk hS
    exact w16 t_mem w3 w4 t_at t_begin t_token t_value w5 _ _ (hP.sub [4, 0, 1, 2, 3] rfl) (hD.sub [4, 0, 1, 2, 3] (by decide) rfl) hS _ (lv_sub hl [0] rfl) h
-- X8_readsAll
theorem dX8_readsAll_0 : decode cX8_readsAll 0 = .ok (.aload_n 0, 1) := by decide +kernel
theorem dX8_readsAll_1 : decode cX8_readsAll 1 = .ok (.getfield 108, 3) := by decide +kernel
theorem dX8_readsAll_4 : decode cX8_readsAll 4 = .ok (.ifCond .ne 100, 3) := by decide +kernel
theorem dX8_readsAll_7 : decode cX8_readsAll 7 = .ok (.aload_n 0, 1) := by decide +kernel
theorem dX8_readsAll_8 : decode cX8_readsAll 8 = .ok (.getfield 100, 3) := by decide +kernel
theorem dX8_readsAll_11 : decode cX8_readsAll 11 = .ok (.ifCond .eq 93, 3) := by decide +kernel
theorem dX8_readsAll_14 : decode cX8_readsAll 14 = .ok (.aload_n 0, 1) := by decide +kernel
theorem dX8_readsAll_15 : decode cX8_readsAll 15 = .ok (.getfield 21, 3) := by decide +kernel
theorem dX8_readsAll_18 : decode cX8_readsAll 18 = .ok (.iconst 3, 1) := by decide +kernel
theorem dX8_readsAll_19 : decode cX8_readsAll 19 = .ok (.iaload, 1) := by decide +kernel
theorem dX8_readsAll_20 : decode cX8_readsAll 20 = .ok (.ifCond .ne 10, 3) := by decide +kernel
theorem dX8_readsAll_23 : decode cX8_readsAll 23 = .ok (.aload_n 0, 1) := by decide +kernel
theorem dX8_readsAll_24 : decode cX8_readsAll 24 = .ok (.invokevirtual 176, 3) := by decide +kernel
theorem dX8_readsAll_27 : decode cX8_readsAll 27 = .ok (.goto 40, 3) := by decide +kernel
theorem dX8_readsAll_30 : decode cX8_readsAll 30 = .ok (.aload_n 0, 1) := by decide +kernel
theorem dX8_readsAll_31 : decode cX8_readsAll 31 = .ok (.ldc 151, 2) := by decide +kernel
theorem dX8_readsAll_33 : decode cX8_readsAll 33 = .ok (.invokevirtual 136, 3) := by decide +kernel
theorem dX8_readsAll_36 : decode cX8_readsAll 36 = .ok (.ifCond .eq 10, 3) := by decide +kernel
theorem dX8_readsAll_39 : decode cX8_readsAll 39 = .ok (.aload_n 0, 1) := by decide +kernel
theorem dX8_readsAll_40 : decode cX8_readsAll 40 = .ok (.invokevirtual 179, 3) := by decide +kernel
theorem dX8_readsAll_43 : decode cX8_readsAll 43 = .ok (.goto 24, 3) := by decide +kernel
theorem dX8_readsAll_46 : decode cX8_readsAll 46 = .ok (.aload_n 0, 1) := by decide +kernel
theorem dX8_readsAll_47 : decode cX8_readsAll 47 = .ok (.ldc 153, 2) := by decide +kernel
theorem dX8_readsAll_49 : decode cX8_readsAll 49 = .ok (.invokevirtual 136, 3) := by decide +kernel
theorem dX8_readsAll_52 : decode cX8_readsAll 52 = .ok (.ifCond .eq 10, 3) := by decide +kernel
theorem dX8_readsAll_55 : decode cX8_readsAll 55 = .ok (.aload_n 0, 1) := by decide +kernel
theorem dX8_readsAll_56 : decode cX8_readsAll 56 = .ok (.invokevirtual 182, 3) := by decide +kernel
theorem dX8_readsAll_59 : decode cX8_readsAll 59 = .ok (.goto 8, 3) := by decide +kernel
theorem dX8_readsAll_62 : decode cX8_readsAll 62 = .ok (.aload_n 0, 1) := by decide +kernel
theorem dX8_readsAll_63 : decode cX8_readsAll 63 = .ok (.iconst 1, 1) := by decide +kernel
theorem dX8_readsAll_64 : decode cX8_readsAll 64 = .ok (.invokevirtual 125, 3) := by decide +kernel
theorem dX8_readsAll_67 : decode cX8_readsAll 67 = .ok (.aload_n 0, 1) := by decide +kernel
theorem dX8_readsAll_68 : decode cX8_readsAll 68 = .ok (.aload_n 0, 1) := by decide +kernel
theorem dX8_readsAll_69 : decode cX8_readsAll 69 = .ok (.getfield 108, 3) := by decide +kernel
theorem dX8_readsAll_72 : decode cX8_readsAll 72 = .ok (.ifCond .ne 11, 3) := by decide +kernel
theorem dX8_readsAll_75 : decode cX8_readsAll 75 = .ok (.aload_n 0, 1) := by decide +kernel
theorem dX8_readsAll_76 : decode cX8_readsAll 76 = .ok (.getfield 100, 3) := by decide +kernel
theorem dX8_readsAll_79 : decode cX8_readsAll 79 = .ok (.iconst 3, 1) := by decide +kernel
theorem dX8_readsAll_80 : decode cX8_readsAll 80 = .ok (.if_icmp .ne 7, 3) := by decide +kernel
theorem dX8_readsAll_83 : decode cX8_readsAll 83 = .ok (.iconst 1, 1) := by decide +kernel
theorem dX8_readsAll_84 : decode cX8_readsAll 84 = .ok (.goto 4, 3) := by decide +kernel
theorem dX8_readsAll_87 : decode cX8_readsAll 87 = .ok (.iconst 0, 1) := by decide +kernel
theorem dX8_readsAll_88 : decode cX8_readsAll 88 = .ok (.invokevirtual 132, 3) := by decide +kernel
theorem dX8_readsAll_91 : decode cX8_readsAll 91 = .ok (.aload_n 0, 1) := by decide +kernel
theorem dX8_readsAll_92 : decode cX8_readsAll 92 = .ok (.getfield 21, 3) := by decide +kernel
theorem dX8_readsAll_95 : decode cX8_readsAll 95 = .ok (.iconst 3, 1) := by decide +kernel
theorem dX8_readsAll_96 : decode cX8_readsAll 96 = .ok (.dup2, 1) := by decide +kernel
theorem dX8_readsAll_97 : decode cX8_readsAll 97 = .ok (.iaload, 1) := by decide +kernel
theorem dX8_readsAll_98 : decode cX8_readsAll 98 = .ok (.iconst 1, 1) := by decide +kernel
theorem dX8_readsAll_99 : decode cX8_readsAll 99 = .ok (.iadd, 1) := by decide +kernel
theorem dX8_readsAll_100 : decode cX8_readsAll 100 = .ok (.iastore, 1) := by decide +kernel
theorem dX8_readsAll_101 : decode cX8_readsAll 101 = .ok (.goto (-101), 3) := by decide +kernel
theorem dX8_readsAll_104 : decode cX8_readsAll 104 = .ok (.return_, 1) := by decide +kernel
noncomputable def fX8_readsAll_88 (k0 : (Nat → Int32) → (Nat → Int32) → Int32 → Int32 → Int32 → Int32 → Int32 → Int32 → Int32 → Int32 → (Nat → Int32) → (Nat → Int32) → Option ((Nat → Int32) × Int32 × Int32 × Int32 × Int32 × Int32 × Int32 × Int32 × (Nat → Int32) × (Nat → Int32))) (t_mem : Nat → Int32) (t_tape : Nat → Int32) (t_taped : Int32) (t_faultKind : Int32) (t_faultPlace : Int32) (t_at : Int32) (t_begin : Int32) (t_token : Int32) (t_value : Int32) (t_bad : Int32) (t_nameAt : Nat → Int32) (t_nameLong : Nat → Int32) (z1 : Int32) : Option ((Nat → Int32) × Int32 × Int32 × Int32 × Int32 × Int32 × Int32 × Int32 × (Nat → Int32) × (Nat → Int32)) := ob7 (fX8_passes t_tape t_taped t_faultKind t_faultPlace t_at t_begin t_token t_value t_bad z1) fun w52 w53 w54 w55 w56 w57 w58 => k0 (upd t_mem 3 ((t_mem 3) + 1)) t_tape t_taped w52 w53 w54 w55 w56 w57 w58 t_nameAt t_nameLong
noncomputable def fX8_readsAll_83 (k0 : (Nat → Int32) → (Nat → Int32) → Int32 → Int32 → Int32 → Int32 → Int32 → Int32 → Int32 → Int32 → (Nat → Int32) → (Nat → Int32) → Option ((Nat → Int32) × Int32 × Int32 × Int32 × Int32 × Int32 × Int32 × Int32 × (Nat → Int32) × (Nat → Int32))) (t_mem : Nat → Int32) (t_tape : Nat → Int32) (t_taped : Int32) (t_faultKind : Int32) (t_faultPlace : Int32) (t_at : Int32) (t_begin : Int32) (t_token : Int32) (t_value : Int32) (t_bad : Int32) (t_nameAt : Nat → Int32) (t_nameLong : Nat → Int32) : Option ((Nat → Int32) × Int32 × Int32 × Int32 × Int32 × Int32 × Int32 × Int32 × (Nat → Int32) × (Nat → Int32)) := fX8_readsAll_88 k0 t_mem t_tape t_taped t_faultKind t_faultPlace t_at t_begin t_token t_value t_bad t_nameAt t_nameLong 1
noncomputable def fX8_readsAll_67 (k0 : (Nat → Int32) → (Nat → Int32) → Int32 → Int32 → Int32 → Int32 → Int32 → Int32 → Int32 → Int32 → (Nat → Int32) → (Nat → Int32) → Option ((Nat → Int32) × Int32 × Int32 × Int32 × Int32 × Int32 × Int32 × Int32 × (Nat → Int32) × (Nat → Int32))) (t_mem : Nat → Int32) (t_tape : Nat → Int32) (t_taped : Int32) (t_faultKind : Int32) (t_faultPlace : Int32) (t_at : Int32) (t_begin : Int32) (t_token : Int32) (t_value : Int32) (t_bad : Int32) (t_nameAt : Nat → Int32) (t_nameLong : Nat → Int32) : Option ((Nat → Int32) × Int32 × Int32 × Int32 × Int32 × Int32 × Int32 × Int32 × (Nat → Int32) × (Nat → Int32)) := (if t_bad = 0 then (if t_token = 3 then fX8_readsAll_83 k0 t_mem t_tape t_taped t_faultKind t_faultPlace t_at t_begin t_token t_value t_bad t_nameAt t_nameLong else fX8_readsAll_88 k0 t_mem t_tape t_taped t_faultKind t_faultPlace t_at t_begin t_token t_value t_bad t_nameAt t_nameLong 0) else fX8_readsAll_83 k0 t_mem t_tape t_taped t_faultKind t_faultPlace t_at t_begin t_token t_value t_bad t_nameAt t_nameLong)
noncomputable def fX8_readsAll_0  : Nat → (Nat → Int32) → (Nat → Int32) → Int32 → Int32 → Int32 → Int32 → Int32 → Int32 → Int32 → Int32 → (Nat → Int32) → (Nat → Int32) → Option ((Nat → Int32) × Int32 × Int32 × Int32 × Int32 × Int32 × Int32 × Int32 × (Nat → Int32) × (Nat → Int32))
  | 0, _, _, _, _, _, _, _, _, _, _, _, _ => none
  | n + 1, t_mem, t_tape, t_taped, t_faultKind, t_faultPlace, t_at, t_begin, t_token, t_value, t_bad, t_nameAt, t_nameLong => (if t_bad = 0 then (if t_token = 0 then some (t_mem, t_faultKind, t_faultPlace, t_at, t_begin, t_token, t_value, t_bad, t_nameAt, t_nameLong) else (if (t_mem 3) = 0 then ob8 (fX8_readsPlate t_mem t_tape t_taped t_faultKind t_faultPlace t_at t_begin t_token t_value t_bad) fun w40 w41 w42 w43 w44 w45 w46 w47 => fX8_readsAll_67 (fX8_readsAll_0 n) w40 t_tape t_taped w41 w42 w43 w44 w45 w46 w47 t_nameAt t_nameLong else (fX8_isWord t_tape t_at t_begin t_token 2).bind fun r4 => (if r4 = 0 then (fX8_isWord t_tape t_at t_begin t_token 3).bind fun r8 => (if r8 = 0 then ob3 (fX8_faults t_faultKind t_faultPlace t_begin t_bad 1) fun w13 w14 w15 => fX8_readsAll_67 (fX8_readsAll_0 n) t_mem t_tape t_taped w13 w14 t_at t_begin t_token t_value w15 t_nameAt t_nameLong else ob8 (fX8_readsPly t_mem t_tape t_taped t_faultKind t_faultPlace t_at t_begin t_token t_value t_bad t_nameAt t_nameLong) fun w18 w19 w20 w21 w22 w23 w24 w25 => fX8_readsAll_67 (fX8_readsAll_0 n) w18 t_tape t_taped w19 w20 w21 w22 w23 w24 w25 t_nameAt t_nameLong) else ob10 (fX8_readsKind t_mem t_tape t_taped t_faultKind t_faultPlace t_at t_begin t_token t_value t_bad t_nameAt t_nameLong) fun w28 w29 w30 w31 w32 w33 w34 w35 w36 w37 => fX8_readsAll_67 (fX8_readsAll_0 n) w28 t_tape t_taped w29 w30 w31 w32 w33 w34 w35 w36 w37))) else some (t_mem, t_faultKind, t_faultPlace, t_at, t_begin, t_token, t_value, t_bad, t_nameAt, t_nameLong))
theorem fX8_readsAll_0_z  (t_mem : Nat → Int32) (t_tape : Nat → Int32) (t_taped : Int32) (t_faultKind : Int32) (t_faultPlace : Int32) (t_at : Int32) (t_begin : Int32) (t_token : Int32) (t_value : Int32) (t_bad : Int32) (t_nameAt : Nat → Int32) (t_nameLong : Nat → Int32) : fX8_readsAll_0  0 t_mem t_tape t_taped t_faultKind t_faultPlace t_at t_begin t_token t_value t_bad t_nameAt t_nameLong = none := rfl
theorem fX8_readsAll_0_s  (n : Nat) (t_mem : Nat → Int32) (t_tape : Nat → Int32) (t_taped : Int32) (t_faultKind : Int32) (t_faultPlace : Int32) (t_at : Int32) (t_begin : Int32) (t_token : Int32) (t_value : Int32) (t_bad : Int32) (t_nameAt : Nat → Int32) (t_nameLong : Nat → Int32) : fX8_readsAll_0  (n + 1) t_mem t_tape t_taped t_faultKind t_faultPlace t_at t_begin t_token t_value t_bad t_nameAt t_nameLong = (if t_bad = 0 then (if t_token = 0 then some (t_mem, t_faultKind, t_faultPlace, t_at, t_begin, t_token, t_value, t_bad, t_nameAt, t_nameLong) else (if (t_mem 3) = 0 then ob8 (fX8_readsPlate t_mem t_tape t_taped t_faultKind t_faultPlace t_at t_begin t_token t_value t_bad) fun w40 w41 w42 w43 w44 w45 w46 w47 => fX8_readsAll_67 (fX8_readsAll_0 n) w40 t_tape t_taped w41 w42 w43 w44 w45 w46 w47 t_nameAt t_nameLong else (fX8_isWord t_tape t_at t_begin t_token 2).bind fun r4 => (if r4 = 0 then (fX8_isWord t_tape t_at t_begin t_token 3).bind fun r8 => (if r8 = 0 then ob3 (fX8_faults t_faultKind t_faultPlace t_begin t_bad 1) fun w13 w14 w15 => fX8_readsAll_67 (fX8_readsAll_0 n) t_mem t_tape t_taped w13 w14 t_at t_begin t_token t_value w15 t_nameAt t_nameLong else ob8 (fX8_readsPly t_mem t_tape t_taped t_faultKind t_faultPlace t_at t_begin t_token t_value t_bad t_nameAt t_nameLong) fun w18 w19 w20 w21 w22 w23 w24 w25 => fX8_readsAll_67 (fX8_readsAll_0 n) w18 t_tape t_taped w19 w20 w21 w22 w23 w24 w25 t_nameAt t_nameLong) else ob10 (fX8_readsKind t_mem t_tape t_taped t_faultKind t_faultPlace t_at t_begin t_token t_value t_bad t_nameAt t_nameLong) fun w28 w29 w30 w31 w32 w33 w34 w35 w36 w37 => fX8_readsAll_67 (fX8_readsAll_0 n) w28 t_tape t_taped w29 w30 w31 w32 w33 w34 w35 w36 w37))) else some (t_mem, t_faultKind, t_faultPlace, t_at, t_begin, t_token, t_value, t_bad, t_nameAt, t_nameLong)) := rfl
noncomputable def fX8_readsAll (t_mem : Nat → Int32) (t_tape : Nat → Int32) (t_taped : Int32) (t_faultKind : Int32) (t_faultPlace : Int32) (t_at : Int32) (t_begin : Int32) (t_token : Int32) (t_value : Int32) (t_bad : Int32) (t_nameAt : Nat → Int32) (t_nameLong : Nat → Int32) : Option ((Nat → Int32) × Int32 × Int32 × Int32 × Int32 × Int32 × Int32 × Int32 × (Nat → Int32) × (Nat → Int32)) := fX8_readsAll_0 FU t_mem t_tape t_taped t_faultKind t_faultPlace t_at t_begin t_token t_value t_bad t_nameAt t_nameLong
set_option maxHeartbeats 4000000 in
set_option maxRecDepth 100000 in
theorem ctX8_readsAll (l : Launch) (g : GT) (sz : Nat) (a_t : Nat → Nat) (t_acted : Int32) (t_taped : Int32) (t_faultKind : Int32) (t_faultPlace : Int32) (t_at : Int32) (t_begin : Int32) (t_token : Int32) (t_value : Int32) (t_bad : Int32) (t_wide : Int32) (t_lost : Int32) (t_det : Int64) (t_mask : Int32) (t_mode : Int32) (t_wanted : Int32) (t_orders : Int32) (t_foundAt : Int32) (t_foundBy : Int64) (t_unlikes : Int32) (t_mem : Nat → Int32) (t_tape : Nat → Int32) (t_nameAt : Nat → Int32) (t_nameLong : Nat → Int32) (o_t_mem : Nat → Int32) (o_t_faultKind : Int32) (o_t_faultPlace : Int32) (o_t_at : Int32) (o_t_begin : Int32) (o_t_token : Int32) (o_t_value : Int32) (o_t_bad : Int32) (o_t_nameAt : Nat → Int32) (o_t_nameLong : Nat → Int32) (h : fX8_readsAll t_mem t_tape t_taped t_faultKind t_faultPlace t_at t_begin t_token t_value t_bad t_nameAt t_nameLong = some (o_t_mem, o_t_faultKind, o_t_faultPlace, o_t_at, o_t_begin, o_t_token, o_t_value, o_t_bad, o_t_nameAt, o_t_nameLong)) : Met l yX8_readsAll (Cond.code yX8_readsAll cX8_readsAll 1 none :: Tw) ⟨11, 0, 0, 225⟩ (va_Pc [.ref ((a_t 0))] (rwB g [((a_t 0), .inr (7, [.ref (a_t 1), .ref (a_t 2), .int t_acted, .ref (a_t 4), .ref (a_t 5), .ref (a_t 6), .ref (a_t 7), .ref (a_t 8), .ref (a_t 9), .int t_taped, .int t_faultKind, .int t_faultPlace, .int t_at, .int t_begin, .int t_token, .int t_value, .int t_bad, .ref (a_t 18), .ref (a_t 19), .ref (a_t 20), .int t_wide, .int t_lost, .ref (a_t 23), .long t_det, .ref (a_t 25), .int t_mask, .int t_mode, .int t_wanted, .int t_orders, .int t_foundAt, .long t_foundBy, .ref (a_t 32), .ref (a_t 33), .int t_unlikes, .ref (a_t 35), .ref (a_t 36)])), ((a_t 1), .inl (g.2.2.1 0, 27, .inl t_mem)), ((a_t 9), .inl (g.2.2.1 0, 600, .inl t_tape)), ((a_t 18), .inl (g.2.2.1 0, 3, .inl t_nameAt)), ((a_t 19), .inl (g.2.2.1 0, 3, .inl t_nameLong))] sz)) (va_Qv (fun (_ : Nat → Nat) => True) (fun u => rwE g (va_A [((a_t 0), .inr (7, [.ref (a_t 1), .ref (a_t 2), .int t_acted, .ref (a_t 4), .ref (a_t 5), .ref (a_t 6), .ref (a_t 7), .ref (a_t 8), .ref (a_t 9), .int t_taped, .int t_faultKind, .int t_faultPlace, .int t_at, .int t_begin, .int t_token, .int t_value, .int t_bad, .ref (a_t 18), .ref (a_t 19), .ref (a_t 20), .int t_wide, .int t_lost, .ref (a_t 23), .long t_det, .ref (a_t 25), .int t_mask, .int t_mode, .int t_wanted, .int t_orders, .int t_foundAt, .long t_foundBy, .ref (a_t 32), .ref (a_t 33), .int t_unlikes, .ref (a_t 35), .ref (a_t 36)])), ((a_t 1), .inl (g.2.2.1 0, 27, .inl t_mem)), ((a_t 9), .inl (g.2.2.1 0, 600, .inl t_tape)), ((a_t 18), .inl (g.2.2.1 0, 3, .inl t_nameAt)), ((a_t 19), .inl (g.2.2.1 0, 3, .inl t_nameLong))] sz) [((a_t 0), .inr (7, [.ref (a_t 1), .ref (a_t 2), .int t_acted, .ref (a_t 4), .ref (a_t 5), .ref (a_t 6), .ref (a_t 7), .ref (a_t 8), .ref (a_t 9), .int t_taped, .int o_t_faultKind, .int o_t_faultPlace, .int o_t_at, .int o_t_begin, .int o_t_token, .int o_t_value, .int o_t_bad, .ref (a_t 18), .ref (a_t 19), .ref (a_t 20), .int t_wide, .int t_lost, .ref (a_t 23), .long t_det, .ref (a_t 25), .int t_mask, .int t_mode, .int t_wanted, .int t_orders, .int t_foundAt, .long t_foundBy, .ref (a_t 32), .ref (a_t 33), .int t_unlikes, .ref (a_t 35), .ref (a_t 36)])), ((a_t 1), .inl (g.2.2.1 0, 27, .inl o_t_mem)), ((a_t 9), .inl (g.2.2.1 0, 600, .inl t_tape)), ((a_t 18), .inl (g.2.2.1 0, 3, .inl o_t_nameAt)), ((a_t 19), .inl (g.2.2.1 0, 3, .inl o_t_nameLong))]) (va_A [((a_t 0), .inr (7, [.ref (a_t 1), .ref (a_t 2), .int t_acted, .ref (a_t 4), .ref (a_t 5), .ref (a_t 6), .ref (a_t 7), .ref (a_t 8), .ref (a_t 9), .int t_taped, .int t_faultKind, .int t_faultPlace, .int t_at, .int t_begin, .int t_token, .int t_value, .int t_bad, .ref (a_t 18), .ref (a_t 19), .ref (a_t 20), .int t_wide, .int t_lost, .ref (a_t 23), .long t_det, .ref (a_t 25), .int t_mask, .int t_mode, .int t_wanted, .int t_orders, .int t_foundAt, .long t_foundBy, .ref (a_t 32), .ref (a_t 33), .int t_unlikes, .ref (a_t 35), .ref (a_t 36)])), ((a_t 1), .inl (g.2.2.1 0, 27, .inl t_mem)), ((a_t 9), .inl (g.2.2.1 0, 600, .inl t_tape)), ((a_t 18), .inl (g.2.2.1 0, 3, .inl t_nameAt)), ((a_t 19), .inl (g.2.2.1 0, 3, .inl t_nameLong))] sz)) 0 0 (va_A [((a_t 0), .inr (7, [.ref (a_t 1), .ref (a_t 2), .int t_acted, .ref (a_t 4), .ref (a_t 5), .ref (a_t 6), .ref (a_t 7), .ref (a_t 8), .ref (a_t 9), .int t_taped, .int t_faultKind, .int t_faultPlace, .int t_at, .int t_begin, .int t_token, .int t_value, .int t_bad, .ref (a_t 18), .ref (a_t 19), .ref (a_t 20), .int t_wide, .int t_lost, .ref (a_t 23), .long t_det, .ref (a_t 25), .int t_mask, .int t_mode, .int t_wanted, .int t_orders, .int t_foundAt, .long t_foundBy, .ref (a_t 32), .ref (a_t 33), .int t_unlikes, .ref (a_t 35), .ref (a_t 36)])), ((a_t 1), .inl (g.2.2.1 0, 27, .inl t_mem)), ((a_t 9), .inl (g.2.2.1 0, 600, .inl t_tape)), ((a_t 18), .inl (g.2.2.1 0, 3, .inl t_nameAt)), ((a_t 19), .inl (g.2.2.1 0, 3, .inl t_nameLong))] sz) := by
  refine rw_metv (by decide) (Nat.le_of_ble_eq_true rfl) (lv0 := [(0, .ref ((a_t 0)))]) rfl ?_
  intro p e s m args below meth c ls Q A cx hret hG hAb hb0 hA hP hD hl
  have hx := cx.1
  have hb := cx.2.1
  have hG0 := hG
  have hGk : ∀ {H : Heap} {locs : List Loc}, va_S A s.heap H locs → GE g s H := fun hS => hG0.keptS hAb hS
  have hSb : ∀ {H : Heap} {locs : List Loc}, va_S A s.heap H locs → va_S (fun a => g.1 ≤ a) s.heap H locs := fun hS => ⟨hS.1, fun q h1 h2 => hS.2.1 q h1 (fun z => h2 (hAb q z)), fun l hl => hAb _ (hS.2.2 l hl)⟩
  have hS : va_S A s.heap s.heap [] := va_S.rf
  have hrt : ∀ (u : Nat → Nat) (pc : Nat) (ls : Array Slot) (x_t_mem : Nat → Int32) (x_t_faultKind : Int32) (x_t_faultPlace : Int32) (x_t_at : Int32) (x_t_begin : Int32) (x_t_token : Int32) (x_t_value : Int32) (x_t_bad : Int32) (x_t_nameAt : Nat → Int32) (x_t_nameLong : Nat → Int32) (H : Heap) (locs : List Loc), decode cX8_readsAll pc = .ok (.return_, 1) → some (x_t_mem, x_t_faultKind, x_t_faultPlace, x_t_at, x_t_begin, x_t_token, x_t_value, x_t_bad, x_t_nameAt, x_t_nameLong) = some (o_t_mem, o_t_faultKind, o_t_faultPlace, o_t_at, o_t_begin, o_t_token, o_t_value, o_t_bad, o_t_nameAt, o_t_nameLong) → va_P g.2.1 vwCl [((a_t 0), .inr (7, [.ref (a_t 1), .ref (a_t 2), .int t_acted, .ref (a_t 4), .ref (a_t 5), .ref (a_t 6), .ref (a_t 7), .ref (a_t 8), .ref (a_t 9), .int t_taped, .int x_t_faultKind, .int x_t_faultPlace, .int x_t_at, .int x_t_begin, .int x_t_token, .int x_t_value, .int x_t_bad, .ref (a_t 18), .ref (a_t 19), .ref (a_t 20), .int t_wide, .int t_lost, .ref (a_t 23), .long t_det, .ref (a_t 25), .int t_mask, .int t_mode, .int t_wanted, .int t_orders, .int t_foundAt, .long t_foundBy, .ref (a_t 32), .ref (a_t 33), .int t_unlikes, .ref (a_t 35), .ref (a_t 36)])), ((a_t 1), .inl (g.2.2.1 0, 27, .inl x_t_mem)), ((a_t 9), .inl (g.2.2.1 0, 600, .inl t_tape)), ((a_t 18), .inl (g.2.2.1 0, 3, .inl x_t_nameAt)), ((a_t 19), .inl (g.2.2.1 0, 3, .inl x_t_nameLong))] H → va_D A [((a_t 0), .inr (7, [.ref (a_t 1), .ref (a_t 2), .int t_acted, .ref (a_t 4), .ref (a_t 5), .ref (a_t 6), .ref (a_t 7), .ref (a_t 8), .ref (a_t 9), .int t_taped, .int x_t_faultKind, .int x_t_faultPlace, .int x_t_at, .int x_t_begin, .int x_t_token, .int x_t_value, .int x_t_bad, .ref (a_t 18), .ref (a_t 19), .ref (a_t 20), .int t_wide, .int t_lost, .ref (a_t 23), .long t_det, .ref (a_t 25), .int t_mask, .int t_mode, .int t_wanted, .int t_orders, .int t_foundAt, .long t_foundBy, .ref (a_t 32), .ref (a_t 33), .int t_unlikes, .ref (a_t 35), .ref (a_t 36)])), ((a_t 1), .inl (g.2.2.1 0, 27, .inl x_t_mem)), ((a_t 9), .inl (g.2.2.1 0, 600, .inl t_tape)), ((a_t 18), .inl (g.2.2.1 0, 3, .inl x_t_nameAt)), ((a_t 19), .inl (g.2.2.1 0, 3, .inl x_t_nameLong))] → va_S A s.heap H locs → W p l e ⟨11, 0, 0, 225⟩ s m args below meth c H locs 0 0 Q (F0 m pc ls []) := by
    intro u pc ls x_t_mem x_t_faultKind x_t_faultPlace x_t_at x_t_begin x_t_token x_t_value x_t_bad x_t_nameAt x_t_nameLong H locs hd h hP hD hS
    cases h
    exact hret u _ _ _ _ hd hP hD hS
  have w88 : ∀ (k0 : (Nat → Int32) → (Nat → Int32) → Int32 → Int32 → Int32 → Int32 → Int32 → Int32 → Int32 → Int32 → (Nat → Int32) → (Nat → Int32) → Option ((Nat → Int32) × Int32 × Int32 × Int32 × Int32 × Int32 × Int32 × Int32 × (Nat → Int32) × (Nat → Int32))) (hk0 : ∀ (t_mem : Nat → Int32) (t_faultKind : Int32) (t_faultPlace : Int32) (t_at : Int32) (t_begin : Int32) (t_token : Int32) (t_value : Int32) (t_bad : Int32) (t_nameAt : Nat → Int32) (t_nameLong : Nat → Int32) (H : Heap) (locs : List Loc), va_P g.2.1 vwCl [((a_t 0), .inr (7, [.ref (a_t 1), .ref (a_t 2), .int t_acted, .ref (a_t 4), .ref (a_t 5), .ref (a_t 6), .ref (a_t 7), .ref (a_t 8), .ref (a_t 9), .int t_taped, .int t_faultKind, .int t_faultPlace, .int t_at, .int t_begin, .int t_token, .int t_value, .int t_bad, .ref (a_t 18), .ref (a_t 19), .ref (a_t 20), .int t_wide, .int t_lost, .ref (a_t 23), .long t_det, .ref (a_t 25), .int t_mask, .int t_mode, .int t_wanted, .int t_orders, .int t_foundAt, .long t_foundBy, .ref (a_t 32), .ref (a_t 33), .int t_unlikes, .ref (a_t 35), .ref (a_t 36)])), ((a_t 1), .inl (g.2.2.1 0, 27, .inl t_mem)), ((a_t 9), .inl (g.2.2.1 0, 600, .inl t_tape)), ((a_t 18), .inl (g.2.2.1 0, 3, .inl t_nameAt)), ((a_t 19), .inl (g.2.2.1 0, 3, .inl t_nameLong))] H → va_D A [((a_t 0), .inr (7, [.ref (a_t 1), .ref (a_t 2), .int t_acted, .ref (a_t 4), .ref (a_t 5), .ref (a_t 6), .ref (a_t 7), .ref (a_t 8), .ref (a_t 9), .int t_taped, .int t_faultKind, .int t_faultPlace, .int t_at, .int t_begin, .int t_token, .int t_value, .int t_bad, .ref (a_t 18), .ref (a_t 19), .ref (a_t 20), .int t_wide, .int t_lost, .ref (a_t 23), .long t_det, .ref (a_t 25), .int t_mask, .int t_mode, .int t_wanted, .int t_orders, .int t_foundAt, .long t_foundBy, .ref (a_t 32), .ref (a_t 33), .int t_unlikes, .ref (a_t 35), .ref (a_t 36)])), ((a_t 1), .inl (g.2.2.1 0, 27, .inl t_mem)), ((a_t 9), .inl (g.2.2.1 0, 600, .inl t_tape)), ((a_t 18), .inl (g.2.2.1 0, 3, .inl t_nameAt)), ((a_t 19), .inl (g.2.2.1 0, 3, .inl t_nameLong))] → va_S A s.heap H locs → ∀ (ls : Array Slot), lv_has ls 1 [(0, .ref ((a_t 0)))] → k0 t_mem t_tape t_taped t_faultKind t_faultPlace t_at t_begin t_token t_value t_bad t_nameAt t_nameLong = some (o_t_mem, o_t_faultKind, o_t_faultPlace, o_t_at, o_t_begin, o_t_token, o_t_value, o_t_bad, o_t_nameAt, o_t_nameLong) → W p l e ⟨11, 0, 0, 225⟩ s m args below meth c H locs 0 0 Q (F0 m 0 ls [])) (t_mem : Nat → Int32) (t_faultKind : Int32) (t_faultPlace : Int32) (t_at : Int32) (t_begin : Int32) (t_token : Int32) (t_value : Int32) (t_bad : Int32) (t_nameAt : Nat → Int32) (t_nameLong : Nat → Int32) (z1 : Int32) (H : Heap) (locs : List Loc), va_P g.2.1 vwCl [((a_t 0), .inr (7, [.ref (a_t 1), .ref (a_t 2), .int t_acted, .ref (a_t 4), .ref (a_t 5), .ref (a_t 6), .ref (a_t 7), .ref (a_t 8), .ref (a_t 9), .int t_taped, .int t_faultKind, .int t_faultPlace, .int t_at, .int t_begin, .int t_token, .int t_value, .int t_bad, .ref (a_t 18), .ref (a_t 19), .ref (a_t 20), .int t_wide, .int t_lost, .ref (a_t 23), .long t_det, .ref (a_t 25), .int t_mask, .int t_mode, .int t_wanted, .int t_orders, .int t_foundAt, .long t_foundBy, .ref (a_t 32), .ref (a_t 33), .int t_unlikes, .ref (a_t 35), .ref (a_t 36)])), ((a_t 1), .inl (g.2.2.1 0, 27, .inl t_mem)), ((a_t 9), .inl (g.2.2.1 0, 600, .inl t_tape)), ((a_t 18), .inl (g.2.2.1 0, 3, .inl t_nameAt)), ((a_t 19), .inl (g.2.2.1 0, 3, .inl t_nameLong))] H → va_D A [((a_t 0), .inr (7, [.ref (a_t 1), .ref (a_t 2), .int t_acted, .ref (a_t 4), .ref (a_t 5), .ref (a_t 6), .ref (a_t 7), .ref (a_t 8), .ref (a_t 9), .int t_taped, .int t_faultKind, .int t_faultPlace, .int t_at, .int t_begin, .int t_token, .int t_value, .int t_bad, .ref (a_t 18), .ref (a_t 19), .ref (a_t 20), .int t_wide, .int t_lost, .ref (a_t 23), .long t_det, .ref (a_t 25), .int t_mask, .int t_mode, .int t_wanted, .int t_orders, .int t_foundAt, .long t_foundBy, .ref (a_t 32), .ref (a_t 33), .int t_unlikes, .ref (a_t 35), .ref (a_t 36)])), ((a_t 1), .inl (g.2.2.1 0, 27, .inl t_mem)), ((a_t 9), .inl (g.2.2.1 0, 600, .inl t_tape)), ((a_t 18), .inl (g.2.2.1 0, 3, .inl t_nameAt)), ((a_t 19), .inl (g.2.2.1 0, 3, .inl t_nameLong))] → va_S A s.heap H locs → ∀ (ls : Array Slot), lv_has ls 1 [(0, .ref ((a_t 0)))] → fX8_readsAll_88 k0 t_mem t_tape t_taped t_faultKind t_faultPlace t_at t_begin t_token t_value t_bad t_nameAt t_nameLong z1 = some (o_t_mem, o_t_faultKind, o_t_faultPlace, o_t_at, o_t_begin, o_t_token, o_t_value, o_t_bad, o_t_nameAt, o_t_nameLong) → W p l e ⟨11, 0, 0, 225⟩ s m args below meth c H locs 0 0 Q (F0 m 88 ls [.int z1, .ref ((a_t 0))]) := by
    intro k0 hk0 t_mem t_faultKind t_faultPlace t_at t_begin t_token t_value t_bad t_nameAt t_nameLong z1 H locs hP hD hS ls hl h
    unfold fX8_readsAll_88 at h
    have hG := hGk hS
    obtain ⟨w52, w53, w54, w55, w56, w57, w58, hr51, h⟩ := ob7_out h
    refine rw_v (WN := fun u59 => [((a_t 1), .inl (g.2.2.1 0, 27, .inl t_mem)), ((a_t 18), .inl (g.2.2.1 0, 3, .inl t_nameAt)), ((a_t 19), .inl (g.2.2.1 0, 3, .inl t_nameLong)), ((a_t 0), .inr (7, [.ref (a_t 1), .ref (a_t 2), .int t_acted, .ref (a_t 4), .ref (a_t 5), .ref (a_t 6), .ref (a_t 7), .ref (a_t 8), .ref (a_t 9), .int t_taped, .int w52, .int w53, .int w54, .int w55, .int w56, .int w57, .int w58, .ref (a_t 18), .ref (a_t 19), .ref (a_t 20), .int t_wide, .int t_lost, .ref (a_t 23), .long t_det, .ref (a_t 25), .int t_mask, .int t_mode, .int t_wanted, .int t_orders, .int t_foundAt, .long t_foundBy, .ref (a_t 32), .ref (a_t 33), .int t_unlikes, .ref (a_t 35), .ref (a_t 36)])), ((a_t 9), .inl (g.2.2.1 0, 600, .inl t_tape))]) (wr := [((a_t 1), .inl (g.2.2.1 0, 27, .inl t_mem)), ((a_t 18), .inl (g.2.2.1 0, 3, .inl t_nameAt)), ((a_t 19), .inl (g.2.2.1 0, 3, .inl t_nameLong))]) (runV (As := [.int z1]) (rest := []) cx hl.1 (ctX8_passes l g H.size a_t t_acted t_taped t_faultKind t_faultPlace t_at t_begin t_token t_value t_bad t_wide t_lost t_det t_mask t_mode t_wanted t_orders t_foundAt t_foundBy t_unlikes t_tape z1 w52 w53 w54 w55 w56 w57 w58 hr51) kmX8_passes kvX8_passes lm_X8_132 ⟨rfl, rfl⟩ ⟨Nat.le_of_ble_eq_true rfl, Nat.le_of_ble_eq_true rfl⟩ (rwV (q0 := 0) (ci := 7) hG (hP.sub [0, 2] rfl) (hD.sub [0, 2] (by decide) rfl) hAb hb0 hS hP rfl rfl) rfl rfl (Nat.le_of_ble_eq_true rfl) dX8_readsAll_88 ⟨Nat.le_of_ble_eq_true rfl, Nat.le_of_ble_eq_true rfl⟩) hP hD hS hA [0, 2] [1, 3, 4] rfl rfl (by decide) (by decide) (fun _ => rfl) (fun u59 H locs hP hD hS => ?_)
    have hG := hGk hS
    refine lv_aload_n hx hb dX8_readsAll_91 rfl (lv_at hl 0 rfl) ?_
    refine xa_get (C := RX8) (T := TX8) (N := 36) cx hG hP 3 rfl rfl uX8 0 (by decide) lf_X8_21 rfl dX8_readsAll_92 ?_
    refine lv_iconst (v := 3) hx hb dX8_readsAll_95 (by decide) ?_
    refine lv_dup2_11 hx hb dX8_readsAll_96 rfl rfl ?_
    refine xa_iald (k := 3) cx hG hP 0 rfl (show ¬ ((3 : Int32) < 0 ∨ 27 ≤ (3 : Int32).toNatClampNeg) by decide) (by decide) dX8_readsAll_97 ?_
    refine lv_iconst (v := 1) hx hb dX8_readsAll_98 (by decide) ?_
    refine lv_iadd hx hb dX8_readsAll_99 ?_
    refine xw_iast (ws' := [((a_t 1), .inl (g.2.2.1 0, 27, .inl (upd t_mem 3 ((t_mem 3) + 1)))), ((a_t 18), .inl (g.2.2.1 0, 3, .inl t_nameAt)), ((a_t 19), .inl (g.2.2.1 0, 3, .inl t_nameLong)), ((a_t 0), .inr (7, [.ref (a_t 1), .ref (a_t 2), .int t_acted, .ref (a_t 4), .ref (a_t 5), .ref (a_t 6), .ref (a_t 7), .ref (a_t 8), .ref (a_t 9), .int t_taped, .int w52, .int w53, .int w54, .int w55, .int w56, .int w57, .int w58, .ref (a_t 18), .ref (a_t 19), .ref (a_t 20), .int t_wide, .int t_lost, .ref (a_t 23), .long t_det, .ref (a_t 25), .int t_mask, .int t_mode, .int t_wanted, .int t_orders, .int t_foundAt, .long t_foundBy, .ref (a_t 32), .ref (a_t 33), .int t_unlikes, .ref (a_t 35), .ref (a_t 36)])), ((a_t 9), .inl (g.2.2.1 0, 600, .inl t_tape))]) (k := 3) cx hG hP hD hS 0 rfl (show ¬ ((3 : Int32) < 0 ∨ 27 ≤ (3 : Int32).toNatClampNeg) by decide) (by decide) rfl dX8_readsAll_100 (fun H locs hP hD hS => ?_)
    have hG := hGk hS
    refine lv_goto (tgt := 0) hx hb dX8_readsAll_101 (by decide) ?_
    exact hk0 (upd t_mem 3 ((t_mem 3) + 1)) w52 w53 w54 w55 w56 w57 w58 t_nameAt t_nameLong _ _ (hP.sub [3, 0, 4, 1, 2] rfl) (hD.sub [3, 0, 4, 1, 2] (by decide) rfl) hS _ (lv_sub hl [0] rfl) h
  have w83 : ∀ (k0 : (Nat → Int32) → (Nat → Int32) → Int32 → Int32 → Int32 → Int32 → Int32 → Int32 → Int32 → Int32 → (Nat → Int32) → (Nat → Int32) → Option ((Nat → Int32) × Int32 × Int32 × Int32 × Int32 × Int32 × Int32 × Int32 × (Nat → Int32) × (Nat → Int32))) (hk0 : ∀ (t_mem : Nat → Int32) (t_faultKind : Int32) (t_faultPlace : Int32) (t_at : Int32) (t_begin : Int32) (t_token : Int32) (t_value : Int32) (t_bad : Int32) (t_nameAt : Nat → Int32) (t_nameLong : Nat → Int32) (H : Heap) (locs : List Loc), va_P g.2.1 vwCl [((a_t 0), .inr (7, [.ref (a_t 1), .ref (a_t 2), .int t_acted, .ref (a_t 4), .ref (a_t 5), .ref (a_t 6), .ref (a_t 7), .ref (a_t 8), .ref (a_t 9), .int t_taped, .int t_faultKind, .int t_faultPlace, .int t_at, .int t_begin, .int t_token, .int t_value, .int t_bad, .ref (a_t 18), .ref (a_t 19), .ref (a_t 20), .int t_wide, .int t_lost, .ref (a_t 23), .long t_det, .ref (a_t 25), .int t_mask, .int t_mode, .int t_wanted, .int t_orders, .int t_foundAt, .long t_foundBy, .ref (a_t 32), .ref (a_t 33), .int t_unlikes, .ref (a_t 35), .ref (a_t 36)])), ((a_t 1), .inl (g.2.2.1 0, 27, .inl t_mem)), ((a_t 9), .inl (g.2.2.1 0, 600, .inl t_tape)), ((a_t 18), .inl (g.2.2.1 0, 3, .inl t_nameAt)), ((a_t 19), .inl (g.2.2.1 0, 3, .inl t_nameLong))] H → va_D A [((a_t 0), .inr (7, [.ref (a_t 1), .ref (a_t 2), .int t_acted, .ref (a_t 4), .ref (a_t 5), .ref (a_t 6), .ref (a_t 7), .ref (a_t 8), .ref (a_t 9), .int t_taped, .int t_faultKind, .int t_faultPlace, .int t_at, .int t_begin, .int t_token, .int t_value, .int t_bad, .ref (a_t 18), .ref (a_t 19), .ref (a_t 20), .int t_wide, .int t_lost, .ref (a_t 23), .long t_det, .ref (a_t 25), .int t_mask, .int t_mode, .int t_wanted, .int t_orders, .int t_foundAt, .long t_foundBy, .ref (a_t 32), .ref (a_t 33), .int t_unlikes, .ref (a_t 35), .ref (a_t 36)])), ((a_t 1), .inl (g.2.2.1 0, 27, .inl t_mem)), ((a_t 9), .inl (g.2.2.1 0, 600, .inl t_tape)), ((a_t 18), .inl (g.2.2.1 0, 3, .inl t_nameAt)), ((a_t 19), .inl (g.2.2.1 0, 3, .inl t_nameLong))] → va_S A s.heap H locs → ∀ (ls : Array Slot), lv_has ls 1 [(0, .ref ((a_t 0)))] → k0 t_mem t_tape t_taped t_faultKind t_faultPlace t_at t_begin t_token t_value t_bad t_nameAt t_nameLong = some (o_t_mem, o_t_faultKind, o_t_faultPlace, o_t_at, o_t_begin, o_t_token, o_t_value, o_t_bad, o_t_nameAt, o_t_nameLong) → W p l e ⟨11, 0, 0, 225⟩ s m args below meth c H locs 0 0 Q (F0 m 0 ls [])) (t_mem : Nat → Int32) (t_faultKind : Int32) (t_faultPlace : Int32) (t_at : Int32) (t_begin : Int32) (t_token : Int32) (t_value : Int32) (t_bad : Int32) (t_nameAt : Nat → Int32) (t_nameLong : Nat → Int32) (H : Heap) (locs : List Loc), va_P g.2.1 vwCl [((a_t 0), .inr (7, [.ref (a_t 1), .ref (a_t 2), .int t_acted, .ref (a_t 4), .ref (a_t 5), .ref (a_t 6), .ref (a_t 7), .ref (a_t 8), .ref (a_t 9), .int t_taped, .int t_faultKind, .int t_faultPlace, .int t_at, .int t_begin, .int t_token, .int t_value, .int t_bad, .ref (a_t 18), .ref (a_t 19), .ref (a_t 20), .int t_wide, .int t_lost, .ref (a_t 23), .long t_det, .ref (a_t 25), .int t_mask, .int t_mode, .int t_wanted, .int t_orders, .int t_foundAt, .long t_foundBy, .ref (a_t 32), .ref (a_t 33), .int t_unlikes, .ref (a_t 35), .ref (a_t 36)])), ((a_t 1), .inl (g.2.2.1 0, 27, .inl t_mem)), ((a_t 9), .inl (g.2.2.1 0, 600, .inl t_tape)), ((a_t 18), .inl (g.2.2.1 0, 3, .inl t_nameAt)), ((a_t 19), .inl (g.2.2.1 0, 3, .inl t_nameLong))] H → va_D A [((a_t 0), .inr (7, [.ref (a_t 1), .ref (a_t 2), .int t_acted, .ref (a_t 4), .ref (a_t 5), .ref (a_t 6), .ref (a_t 7), .ref (a_t 8), .ref (a_t 9), .int t_taped, .int t_faultKind, .int t_faultPlace, .int t_at, .int t_begin, .int t_token, .int t_value, .int t_bad, .ref (a_t 18), .ref (a_t 19), .ref (a_t 20), .int t_wide, .int t_lost, .ref (a_t 23), .long t_det, .ref (a_t 25), .int t_mask, .int t_mode, .int t_wanted, .int t_orders, .int t_foundAt, .long t_foundBy, .ref (a_t 32), .ref (a_t 33), .int t_unlikes, .ref (a_t 35), .ref (a_t 36)])), ((a_t 1), .inl (g.2.2.1 0, 27, .inl t_mem)), ((a_t 9), .inl (g.2.2.1 0, 600, .inl t_tape)), ((a_t 18), .inl (g.2.2.1 0, 3, .inl t_nameAt)), ((a_t 19), .inl (g.2.2.1 0, 3, .inl t_nameLong))] → va_S A s.heap H locs → ∀ (ls : Array Slot), lv_has ls 1 [(0, .ref ((a_t 0)))] → fX8_readsAll_83 k0 t_mem t_tape t_taped t_faultKind t_faultPlace t_at t_begin t_token t_value t_bad t_nameAt t_nameLong = some (o_t_mem, o_t_faultKind, o_t_faultPlace, o_t_at, o_t_begin, o_t_token, o_t_value, o_t_bad, o_t_nameAt, o_t_nameLong) → W p l e ⟨11, 0, 0, 225⟩ s m args below meth c H locs 0 0 Q (F0 m 83 ls [.ref ((a_t 0))]) := by
    intro k0 hk0 t_mem t_faultKind t_faultPlace t_at t_begin t_token t_value t_bad t_nameAt t_nameLong H locs hP hD hS ls hl h
    unfold fX8_readsAll_83 at h
    have hG := hGk hS
    refine lv_iconst (v := 1) hx hb dX8_readsAll_83 (by decide) ?_
    refine lv_goto (tgt := 88) hx hb dX8_readsAll_84 (by decide) ?_
    exact w88 _ hk0 t_mem t_faultKind t_faultPlace t_at t_begin t_token t_value t_bad t_nameAt t_nameLong 1 _ _ hP hD hS _ (lv_sub hl [0] rfl) h
  have w67 : ∀ (k0 : (Nat → Int32) → (Nat → Int32) → Int32 → Int32 → Int32 → Int32 → Int32 → Int32 → Int32 → Int32 → (Nat → Int32) → (Nat → Int32) → Option ((Nat → Int32) × Int32 × Int32 × Int32 × Int32 × Int32 × Int32 × Int32 × (Nat → Int32) × (Nat → Int32))) (hk0 : ∀ (t_mem : Nat → Int32) (t_faultKind : Int32) (t_faultPlace : Int32) (t_at : Int32) (t_begin : Int32) (t_token : Int32) (t_value : Int32) (t_bad : Int32) (t_nameAt : Nat → Int32) (t_nameLong : Nat → Int32) (H : Heap) (locs : List Loc), va_P g.2.1 vwCl [((a_t 0), .inr (7, [.ref (a_t 1), .ref (a_t 2), .int t_acted, .ref (a_t 4), .ref (a_t 5), .ref (a_t 6), .ref (a_t 7), .ref (a_t 8), .ref (a_t 9), .int t_taped, .int t_faultKind, .int t_faultPlace, .int t_at, .int t_begin, .int t_token, .int t_value, .int t_bad, .ref (a_t 18), .ref (a_t 19), .ref (a_t 20), .int t_wide, .int t_lost, .ref (a_t 23), .long t_det, .ref (a_t 25), .int t_mask, .int t_mode, .int t_wanted, .int t_orders, .int t_foundAt, .long t_foundBy, .ref (a_t 32), .ref (a_t 33), .int t_unlikes, .ref (a_t 35), .ref (a_t 36)])), ((a_t 1), .inl (g.2.2.1 0, 27, .inl t_mem)), ((a_t 9), .inl (g.2.2.1 0, 600, .inl t_tape)), ((a_t 18), .inl (g.2.2.1 0, 3, .inl t_nameAt)), ((a_t 19), .inl (g.2.2.1 0, 3, .inl t_nameLong))] H → va_D A [((a_t 0), .inr (7, [.ref (a_t 1), .ref (a_t 2), .int t_acted, .ref (a_t 4), .ref (a_t 5), .ref (a_t 6), .ref (a_t 7), .ref (a_t 8), .ref (a_t 9), .int t_taped, .int t_faultKind, .int t_faultPlace, .int t_at, .int t_begin, .int t_token, .int t_value, .int t_bad, .ref (a_t 18), .ref (a_t 19), .ref (a_t 20), .int t_wide, .int t_lost, .ref (a_t 23), .long t_det, .ref (a_t 25), .int t_mask, .int t_mode, .int t_wanted, .int t_orders, .int t_foundAt, .long t_foundBy, .ref (a_t 32), .ref (a_t 33), .int t_unlikes, .ref (a_t 35), .ref (a_t 36)])), ((a_t 1), .inl (g.2.2.1 0, 27, .inl t_mem)), ((a_t 9), .inl (g.2.2.1 0, 600, .inl t_tape)), ((a_t 18), .inl (g.2.2.1 0, 3, .inl t_nameAt)), ((a_t 19), .inl (g.2.2.1 0, 3, .inl t_nameLong))] → va_S A s.heap H locs → ∀ (ls : Array Slot), lv_has ls 1 [(0, .ref ((a_t 0)))] → k0 t_mem t_tape t_taped t_faultKind t_faultPlace t_at t_begin t_token t_value t_bad t_nameAt t_nameLong = some (o_t_mem, o_t_faultKind, o_t_faultPlace, o_t_at, o_t_begin, o_t_token, o_t_value, o_t_bad, o_t_nameAt, o_t_nameLong) → W p l e ⟨11, 0, 0, 225⟩ s m args below meth c H locs 0 0 Q (F0 m 0 ls [])) (t_mem : Nat → Int32) (t_faultKind : Int32) (t_faultPlace : Int32) (t_at : Int32) (t_begin : Int32) (t_token : Int32) (t_value : Int32) (t_bad : Int32) (t_nameAt : Nat → Int32) (t_nameLong : Nat → Int32) (H : Heap) (locs : List Loc), va_P g.2.1 vwCl [((a_t 0), .inr (7, [.ref (a_t 1), .ref (a_t 2), .int t_acted, .ref (a_t 4), .ref (a_t 5), .ref (a_t 6), .ref (a_t 7), .ref (a_t 8), .ref (a_t 9), .int t_taped, .int t_faultKind, .int t_faultPlace, .int t_at, .int t_begin, .int t_token, .int t_value, .int t_bad, .ref (a_t 18), .ref (a_t 19), .ref (a_t 20), .int t_wide, .int t_lost, .ref (a_t 23), .long t_det, .ref (a_t 25), .int t_mask, .int t_mode, .int t_wanted, .int t_orders, .int t_foundAt, .long t_foundBy, .ref (a_t 32), .ref (a_t 33), .int t_unlikes, .ref (a_t 35), .ref (a_t 36)])), ((a_t 1), .inl (g.2.2.1 0, 27, .inl t_mem)), ((a_t 9), .inl (g.2.2.1 0, 600, .inl t_tape)), ((a_t 18), .inl (g.2.2.1 0, 3, .inl t_nameAt)), ((a_t 19), .inl (g.2.2.1 0, 3, .inl t_nameLong))] H → va_D A [((a_t 0), .inr (7, [.ref (a_t 1), .ref (a_t 2), .int t_acted, .ref (a_t 4), .ref (a_t 5), .ref (a_t 6), .ref (a_t 7), .ref (a_t 8), .ref (a_t 9), .int t_taped, .int t_faultKind, .int t_faultPlace, .int t_at, .int t_begin, .int t_token, .int t_value, .int t_bad, .ref (a_t 18), .ref (a_t 19), .ref (a_t 20), .int t_wide, .int t_lost, .ref (a_t 23), .long t_det, .ref (a_t 25), .int t_mask, .int t_mode, .int t_wanted, .int t_orders, .int t_foundAt, .long t_foundBy, .ref (a_t 32), .ref (a_t 33), .int t_unlikes, .ref (a_t 35), .ref (a_t 36)])), ((a_t 1), .inl (g.2.2.1 0, 27, .inl t_mem)), ((a_t 9), .inl (g.2.2.1 0, 600, .inl t_tape)), ((a_t 18), .inl (g.2.2.1 0, 3, .inl t_nameAt)), ((a_t 19), .inl (g.2.2.1 0, 3, .inl t_nameLong))] → va_S A s.heap H locs → ∀ (ls : Array Slot), lv_has ls 1 [(0, .ref ((a_t 0)))] → fX8_readsAll_67 k0 t_mem t_tape t_taped t_faultKind t_faultPlace t_at t_begin t_token t_value t_bad t_nameAt t_nameLong = some (o_t_mem, o_t_faultKind, o_t_faultPlace, o_t_at, o_t_begin, o_t_token, o_t_value, o_t_bad, o_t_nameAt, o_t_nameLong) → W p l e ⟨11, 0, 0, 225⟩ s m args below meth c H locs 0 0 Q (F0 m 67 ls []) := by
    intro k0 hk0 t_mem t_faultKind t_faultPlace t_at t_begin t_token t_value t_bad t_nameAt t_nameLong H locs hP hD hS ls hl h
    unfold fX8_readsAll_67 at h
    have hG := hGk hS
    refine lv_aload_n hx hb dX8_readsAll_67 rfl (lv_at hl 0 rfl) ?_
    refine lv_aload_n hx hb dX8_readsAll_68 rfl (lv_at hl 0 rfl) ?_
    refine xa_get (C := RX8) (T := TX8) (N := 36) cx hG hP 0 rfl rfl uX8 16 (by decide) lf_X8_108 rfl dX8_readsAll_69 ?_
    refine lv_if_ne (tgt := 83) hx hb dX8_readsAll_72 (by decide) (fun c49 => ?_) (fun c49 => ?_)
    · have h := itn c49 h
      exact w83 _ hk0 t_mem t_faultKind t_faultPlace t_at t_begin t_token t_value t_bad t_nameAt t_nameLong _ _ hP hD hS _ (lv_sub hl [0] rfl) h
    · have h := itp c49 h
      refine lv_aload_n hx hb dX8_readsAll_75 rfl (lv_at hl 0 rfl) ?_
      refine xa_get (C := RX8) (T := TX8) (N := 36) cx hG hP 0 rfl rfl uX8 14 (by decide) lf_X8_100 rfl dX8_readsAll_76 ?_
      refine lv_iconst (v := 3) hx hb dX8_readsAll_79 (by decide) ?_
      refine lv_icmp_ne (tgt := 87) hx hb dX8_readsAll_80 (by decide) (fun c50 => ?_) (fun c50 => ?_)
      · have h := itn c50 h
        refine lv_iconst (v := 0) hx hb dX8_readsAll_87 (by decide) ?_
        exact w88 _ hk0 t_mem t_faultKind t_faultPlace t_at t_begin t_token t_value t_bad t_nameAt t_nameLong 0 _ _ hP hD hS _ (lv_sub hl [0] rfl) h
      · have h := itp c50 h
        exact w83 _ hk0 t_mem t_faultKind t_faultPlace t_at t_begin t_token t_value t_bad t_nameAt t_nameLong _ _ hP hD hS _ (lv_sub hl [0] rfl) h
  have w0 : ∀ (n : Nat) (t_mem : Nat → Int32) (t_faultKind : Int32) (t_faultPlace : Int32) (t_at : Int32) (t_begin : Int32) (t_token : Int32) (t_value : Int32) (t_bad : Int32) (t_nameAt : Nat → Int32) (t_nameLong : Nat → Int32) (H : Heap) (locs : List Loc), va_P g.2.1 vwCl [((a_t 0), .inr (7, [.ref (a_t 1), .ref (a_t 2), .int t_acted, .ref (a_t 4), .ref (a_t 5), .ref (a_t 6), .ref (a_t 7), .ref (a_t 8), .ref (a_t 9), .int t_taped, .int t_faultKind, .int t_faultPlace, .int t_at, .int t_begin, .int t_token, .int t_value, .int t_bad, .ref (a_t 18), .ref (a_t 19), .ref (a_t 20), .int t_wide, .int t_lost, .ref (a_t 23), .long t_det, .ref (a_t 25), .int t_mask, .int t_mode, .int t_wanted, .int t_orders, .int t_foundAt, .long t_foundBy, .ref (a_t 32), .ref (a_t 33), .int t_unlikes, .ref (a_t 35), .ref (a_t 36)])), ((a_t 1), .inl (g.2.2.1 0, 27, .inl t_mem)), ((a_t 9), .inl (g.2.2.1 0, 600, .inl t_tape)), ((a_t 18), .inl (g.2.2.1 0, 3, .inl t_nameAt)), ((a_t 19), .inl (g.2.2.1 0, 3, .inl t_nameLong))] H → va_D A [((a_t 0), .inr (7, [.ref (a_t 1), .ref (a_t 2), .int t_acted, .ref (a_t 4), .ref (a_t 5), .ref (a_t 6), .ref (a_t 7), .ref (a_t 8), .ref (a_t 9), .int t_taped, .int t_faultKind, .int t_faultPlace, .int t_at, .int t_begin, .int t_token, .int t_value, .int t_bad, .ref (a_t 18), .ref (a_t 19), .ref (a_t 20), .int t_wide, .int t_lost, .ref (a_t 23), .long t_det, .ref (a_t 25), .int t_mask, .int t_mode, .int t_wanted, .int t_orders, .int t_foundAt, .long t_foundBy, .ref (a_t 32), .ref (a_t 33), .int t_unlikes, .ref (a_t 35), .ref (a_t 36)])), ((a_t 1), .inl (g.2.2.1 0, 27, .inl t_mem)), ((a_t 9), .inl (g.2.2.1 0, 600, .inl t_tape)), ((a_t 18), .inl (g.2.2.1 0, 3, .inl t_nameAt)), ((a_t 19), .inl (g.2.2.1 0, 3, .inl t_nameLong))] → va_S A s.heap H locs → ∀ (ls : Array Slot), lv_has ls 1 [(0, .ref ((a_t 0)))] → fX8_readsAll_0  n t_mem t_tape t_taped t_faultKind t_faultPlace t_at t_begin t_token t_value t_bad t_nameAt t_nameLong = some (o_t_mem, o_t_faultKind, o_t_faultPlace, o_t_at, o_t_begin, o_t_token, o_t_value, o_t_bad, o_t_nameAt, o_t_nameLong) → W p l e ⟨11, 0, 0, 225⟩ s m args below meth c H locs 0 0 Q (F0 m 0 ls []) := by
    intro n
    induction n with
    | zero => intro t_mem t_faultKind t_faultPlace t_at t_begin t_token t_value t_bad t_nameAt t_nameLong H locs hP hD hS ls hl h; cases (fX8_readsAll_0_z  t_mem t_tape t_taped t_faultKind t_faultPlace t_at t_begin t_token t_value t_bad t_nameAt t_nameLong).symm.trans h
    | succ n ih =>
    intro t_mem t_faultKind t_faultPlace t_at t_begin t_token t_value t_bad t_nameAt t_nameLong H locs hP hD hS ls hl h
    have h := (fX8_readsAll_0_s  n t_mem t_tape t_taped t_faultKind t_faultPlace t_at t_begin t_token t_value t_bad t_nameAt t_nameLong).symm.trans h
    have hG := hGk hS
    refine lv_aload_n hx hb dX8_readsAll_0 rfl (lv_at hl 0 rfl) ?_
    refine xa_get (C := RX8) (T := TX8) (N := 36) cx hG hP 0 rfl rfl uX8 16 (by decide) lf_X8_108 rfl dX8_readsAll_1 ?_
    refine lv_if_ne (tgt := 104) hx hb dX8_readsAll_4 (by decide) (fun c1 => ?_) (fun c1 => ?_)
    · have h := itn c1 h
      exact hrt (fun _ => 0) _ _ t_mem t_faultKind t_faultPlace t_at t_begin t_token t_value t_bad t_nameAt t_nameLong _ _ dX8_readsAll_104 h (hP.sub [0, 1, 2, 3, 4] rfl) (hD.sub [0, 1, 2, 3, 4] (by decide) rfl) hS
    · have h := itp c1 h
      refine lv_aload_n hx hb dX8_readsAll_7 rfl (lv_at hl 0 rfl) ?_
      refine xa_get (C := RX8) (T := TX8) (N := 36) cx hG hP 0 rfl rfl uX8 14 (by decide) lf_X8_100 rfl dX8_readsAll_8 ?_
      refine lv_if_eq (tgt := 104) hx hb dX8_readsAll_11 (by decide) (fun c2 => ?_) (fun c2 => ?_)
      · have h := itp c2 h
        exact hrt (fun _ => 0) _ _ t_mem t_faultKind t_faultPlace t_at t_begin t_token t_value t_bad t_nameAt t_nameLong _ _ dX8_readsAll_104 h (hP.sub [0, 1, 2, 3, 4] rfl) (hD.sub [0, 1, 2, 3, 4] (by decide) rfl) hS
      · have h := itn c2 h
        refine lv_aload_n hx hb dX8_readsAll_14 rfl (lv_at hl 0 rfl) ?_
        refine xa_get (C := RX8) (T := TX8) (N := 36) cx hG hP 0 rfl rfl uX8 0 (by decide) lf_X8_21 rfl dX8_readsAll_15 ?_
        refine lv_iconst (v := 3) hx hb dX8_readsAll_18 (by decide) ?_
        refine xa_iald (k := 3) cx hG hP 1 rfl (show ¬ ((3 : Int32) < 0 ∨ 27 ≤ (3 : Int32).toNatClampNeg) by decide) (by decide) dX8_readsAll_19 ?_
        refine lv_if_ne (tgt := 30) hx hb dX8_readsAll_20 (by decide) (fun c3 => ?_) (fun c3 => ?_)
        · have h := itn c3 h
          refine lv_aload_n hx hb dX8_readsAll_30 rfl (lv_at hl 0 rfl) ?_
          refine va_ldcS (own := RX8) (tx := "kind") (q := g.2.2.2.2.1 2) hx hb cx.2.2.2.1 (GE_st hG sr_15) dX8_readsAll_31 ?_
          obtain ⟨r4, hr5, h⟩ := bnd h
          refine ro_z (runV (As := [.ref ((g.2.2.2.2.1 2))]) (rest := []) cx hl.1 (ctX8_isWord l g a_t t_acted t_taped t_faultKind t_faultPlace t_at t_begin t_token t_value t_bad t_wide t_lost t_det t_mask t_mode t_wanted t_orders t_foundAt t_foundBy t_unlikes t_tape 2 (by decide) r4 hr5) kmX8_isWord kvX8_isWord lm_X8_136 ⟨rfl, rfl⟩ ⟨Nat.le_of_ble_eq_true rfl, Nat.le_of_ble_eq_true rfl⟩ (roV (q0 := 0) (ci := 7) hG (hP.sub [0, 2] rfl) hP rfl rfl) rfl rfl (Nat.le_of_ble_eq_true rfl) dX8_readsAll_33 ⟨Nat.le_of_ble_eq_true rfl, Nat.le_of_ble_eq_true rfl⟩) (fun hz6 => ?_)
          refine lv_if_eq (tgt := 46) hx hb dX8_readsAll_36 (by decide) (fun c7 => ?_) (fun c7 => ?_)
          · have h := itp c7 h
            refine lv_aload_n hx hb dX8_readsAll_46 rfl (lv_at hl 0 rfl) ?_
            refine va_ldcS (own := RX8) (tx := "ply") (q := g.2.2.2.2.1 3) hx hb cx.2.2.2.1 (GE_st hG sr_16) dX8_readsAll_47 ?_
            obtain ⟨r8, hr9, h⟩ := bnd h
            refine ro_z (runV (As := [.ref ((g.2.2.2.2.1 3))]) (rest := []) cx hl.1 (ctX8_isWord l g a_t t_acted t_taped t_faultKind t_faultPlace t_at t_begin t_token t_value t_bad t_wide t_lost t_det t_mask t_mode t_wanted t_orders t_foundAt t_foundBy t_unlikes t_tape 3 (by decide) r8 hr9) kmX8_isWord kvX8_isWord lm_X8_136 ⟨rfl, rfl⟩ ⟨Nat.le_of_ble_eq_true rfl, Nat.le_of_ble_eq_true rfl⟩ (roV (q0 := 0) (ci := 7) hG (hP.sub [0, 2] rfl) hP rfl rfl) rfl rfl (Nat.le_of_ble_eq_true rfl) dX8_readsAll_49 ⟨Nat.le_of_ble_eq_true rfl, Nat.le_of_ble_eq_true rfl⟩) (fun hz10 => ?_)
            refine lv_if_eq (tgt := 62) hx hb dX8_readsAll_52 (by decide) (fun c11 => ?_) (fun c11 => ?_)
            · have h := itp c11 h
              refine lv_aload_n hx hb dX8_readsAll_62 rfl (lv_at hl 0 rfl) ?_
              refine lv_iconst (v := 1) hx hb dX8_readsAll_63 (by decide) ?_
              obtain ⟨w13, w14, w15, hr12, h⟩ := ob3_out h
              refine rw_v (WN := fun u16 => [((a_t 1), .inl (g.2.2.1 0, 27, .inl t_mem)), ((a_t 9), .inl (g.2.2.1 0, 600, .inl t_tape)), ((a_t 18), .inl (g.2.2.1 0, 3, .inl t_nameAt)), ((a_t 19), .inl (g.2.2.1 0, 3, .inl t_nameLong)), ((a_t 0), .inr (7, [.ref (a_t 1), .ref (a_t 2), .int t_acted, .ref (a_t 4), .ref (a_t 5), .ref (a_t 6), .ref (a_t 7), .ref (a_t 8), .ref (a_t 9), .int t_taped, .int w13, .int w14, .int t_at, .int t_begin, .int t_token, .int t_value, .int w15, .ref (a_t 18), .ref (a_t 19), .ref (a_t 20), .int t_wide, .int t_lost, .ref (a_t 23), .long t_det, .ref (a_t 25), .int t_mask, .int t_mode, .int t_wanted, .int t_orders, .int t_foundAt, .long t_foundBy, .ref (a_t 32), .ref (a_t 33), .int t_unlikes, .ref (a_t 35), .ref (a_t 36)]))]) (wr := [((a_t 1), .inl (g.2.2.1 0, 27, .inl t_mem)), ((a_t 9), .inl (g.2.2.1 0, 600, .inl t_tape)), ((a_t 18), .inl (g.2.2.1 0, 3, .inl t_nameAt)), ((a_t 19), .inl (g.2.2.1 0, 3, .inl t_nameLong))]) (runV (As := [.int (1)]) (rest := []) cx hl.1 (ctX8_faults l g H.size a_t t_acted t_taped t_faultKind t_faultPlace t_at t_begin t_token t_value t_bad t_wide t_lost t_det t_mask t_mode t_wanted t_orders t_foundAt t_foundBy t_unlikes (1) w13 w14 w15 hr12) kmX8_faults kvX8_faults lm_X8_125 ⟨rfl, rfl⟩ ⟨Nat.le_of_ble_eq_true rfl, Nat.le_of_ble_eq_true rfl⟩ (rwV (q0 := 0) (ci := 7) hG (hP.sub [0] rfl) (hD.sub [0] (by decide) rfl) hAb hb0 hS hP rfl rfl) rfl rfl (Nat.le_of_ble_eq_true rfl) dX8_readsAll_64 ⟨Nat.le_of_ble_eq_true rfl, Nat.le_of_ble_eq_true rfl⟩) hP hD hS hA [0] [1, 2, 3, 4] rfl rfl (by decide) (by decide) (fun _ => rfl) (fun u16 H locs hP hD hS => ?_)
              have hG := hGk hS
              exact w67 _ ih t_mem w13 w14 t_at t_begin t_token t_value w15 t_nameAt t_nameLong _ _ (hP.sub [4, 0, 1, 2, 3] rfl) (hD.sub [4, 0, 1, 2, 3] (by decide) rfl) hS _ (lv_sub hl [0] rfl) h
            · have h := itn c11 h
              refine lv_aload_n hx hb dX8_readsAll_55 rfl (lv_at hl 0 rfl) ?_
              obtain ⟨w18, w19, w20, w21, w22, w23, w24, w25, hr17, h⟩ := ob8_out h
              refine rw_v (WN := fun u26 => [((a_t 0), .inr (7, [.ref (a_t 1), .ref (a_t 2), .int t_acted, .ref (a_t 4), .ref (a_t 5), .ref (a_t 6), .ref (a_t 7), .ref (a_t 8), .ref (a_t 9), .int t_taped, .int w19, .int w20, .int w21, .int w22, .int w23, .int w24, .int w25, .ref (a_t 18), .ref (a_t 19), .ref (a_t 20), .int t_wide, .int t_lost, .ref (a_t 23), .long t_det, .ref (a_t 25), .int t_mask, .int t_mode, .int t_wanted, .int t_orders, .int t_foundAt, .long t_foundBy, .ref (a_t 32), .ref (a_t 33), .int t_unlikes, .ref (a_t 35), .ref (a_t 36)])), ((a_t 1), .inl (g.2.2.1 0, 27, .inl w18)), ((a_t 9), .inl (g.2.2.1 0, 600, .inl t_tape)), ((a_t 18), .inl (g.2.2.1 0, 3, .inl t_nameAt)), ((a_t 19), .inl (g.2.2.1 0, 3, .inl t_nameLong))]) (wr := []) (runV (As := []) (rest := []) cx hl.1 (ctX8_readsPly l g H.size a_t t_acted t_taped t_faultKind t_faultPlace t_at t_begin t_token t_value t_bad t_wide t_lost t_det t_mask t_mode t_wanted t_orders t_foundAt t_foundBy t_unlikes t_mem t_tape t_nameAt t_nameLong w18 w19 w20 w21 w22 w23 w24 w25 hr17) kmX8_readsPly kvX8_readsPly lm_X8_182 ⟨rfl, rfl⟩ ⟨Nat.le_of_ble_eq_true rfl, Nat.le_of_ble_eq_true rfl⟩ (rwV (q0 := 0) (ci := 7) hG (hP.sub [0, 1, 2, 3, 4] rfl) (hD.sub [0, 1, 2, 3, 4] (by decide) rfl) hAb hb0 hS hP rfl rfl) rfl rfl (Nat.le_of_ble_eq_true rfl) dX8_readsAll_56 ⟨Nat.le_of_ble_eq_true rfl, Nat.le_of_ble_eq_true rfl⟩) hP hD hS hA [0, 1, 2, 3, 4] [] rfl rfl (by decide) (by decide) (fun _ => rfl) (fun u26 H locs hP hD hS => ?_)
              have hG := hGk hS
              refine lv_goto (tgt := 67) hx hb dX8_readsAll_59 (by decide) ?_
              exact w67 _ ih w18 w19 w20 w21 w22 w23 w24 w25 t_nameAt t_nameLong _ _ hP hD hS _ (lv_sub hl [0] rfl) h
          · have h := itn c7 h
            refine lv_aload_n hx hb dX8_readsAll_39 rfl (lv_at hl 0 rfl) ?_
            obtain ⟨w28, w29, w30, w31, w32, w33, w34, w35, w36, w37, hr27, h⟩ := ob10_out h
            refine rw_v (WN := fun u38 => [((a_t 0), .inr (7, [.ref (a_t 1), .ref (a_t 2), .int t_acted, .ref (a_t 4), .ref (a_t 5), .ref (a_t 6), .ref (a_t 7), .ref (a_t 8), .ref (a_t 9), .int t_taped, .int w29, .int w30, .int w31, .int w32, .int w33, .int w34, .int w35, .ref (a_t 18), .ref (a_t 19), .ref (a_t 20), .int t_wide, .int t_lost, .ref (a_t 23), .long t_det, .ref (a_t 25), .int t_mask, .int t_mode, .int t_wanted, .int t_orders, .int t_foundAt, .long t_foundBy, .ref (a_t 32), .ref (a_t 33), .int t_unlikes, .ref (a_t 35), .ref (a_t 36)])), ((a_t 1), .inl (g.2.2.1 0, 27, .inl w28)), ((a_t 9), .inl (g.2.2.1 0, 600, .inl t_tape)), ((a_t 18), .inl (g.2.2.1 0, 3, .inl w36)), ((a_t 19), .inl (g.2.2.1 0, 3, .inl w37))]) (wr := []) (runV (As := []) (rest := []) cx hl.1 (ctX8_readsKind l g H.size a_t t_acted t_taped t_faultKind t_faultPlace t_at t_begin t_token t_value t_bad t_wide t_lost t_det t_mask t_mode t_wanted t_orders t_foundAt t_foundBy t_unlikes t_mem t_tape t_nameAt t_nameLong w28 w29 w30 w31 w32 w33 w34 w35 w36 w37 hr27) kmX8_readsKind kvX8_readsKind lm_X8_179 ⟨rfl, rfl⟩ ⟨Nat.le_of_ble_eq_true rfl, Nat.le_of_ble_eq_true rfl⟩ (rwV (q0 := 0) (ci := 7) hG (hP.sub [0, 1, 2, 3, 4] rfl) (hD.sub [0, 1, 2, 3, 4] (by decide) rfl) hAb hb0 hS hP rfl rfl) rfl rfl (Nat.le_of_ble_eq_true rfl) dX8_readsAll_40 ⟨Nat.le_of_ble_eq_true rfl, Nat.le_of_ble_eq_true rfl⟩) hP hD hS hA [0, 1, 2, 3, 4] [] rfl rfl (by decide) (by decide) (fun _ => rfl) (fun u38 H locs hP hD hS => ?_)
            have hG := hGk hS
            refine lv_goto (tgt := 67) hx hb dX8_readsAll_43 (by decide) ?_
            exact w67 _ ih w28 w29 w30 w31 w32 w33 w34 w35 w36 w37 _ _ hP hD hS _ (lv_sub hl [0] rfl) h
        · have h := itp c3 h
          refine lv_aload_n hx hb dX8_readsAll_23 rfl (lv_at hl 0 rfl) ?_
          obtain ⟨w40, w41, w42, w43, w44, w45, w46, w47, hr39, h⟩ := ob8_out h
          refine rw_v (WN := fun u48 => [((a_t 18), .inl (g.2.2.1 0, 3, .inl t_nameAt)), ((a_t 19), .inl (g.2.2.1 0, 3, .inl t_nameLong)), ((a_t 0), .inr (7, [.ref (a_t 1), .ref (a_t 2), .int t_acted, .ref (a_t 4), .ref (a_t 5), .ref (a_t 6), .ref (a_t 7), .ref (a_t 8), .ref (a_t 9), .int t_taped, .int w41, .int w42, .int w43, .int w44, .int w45, .int w46, .int w47, .ref (a_t 18), .ref (a_t 19), .ref (a_t 20), .int t_wide, .int t_lost, .ref (a_t 23), .long t_det, .ref (a_t 25), .int t_mask, .int t_mode, .int t_wanted, .int t_orders, .int t_foundAt, .long t_foundBy, .ref (a_t 32), .ref (a_t 33), .int t_unlikes, .ref (a_t 35), .ref (a_t 36)])), ((a_t 1), .inl (g.2.2.1 0, 27, .inl w40)), ((a_t 9), .inl (g.2.2.1 0, 600, .inl t_tape))]) (wr := [((a_t 18), .inl (g.2.2.1 0, 3, .inl t_nameAt)), ((a_t 19), .inl (g.2.2.1 0, 3, .inl t_nameLong))]) (runV (As := []) (rest := []) cx hl.1 (ctX8_readsPlate l g H.size a_t t_acted t_taped t_faultKind t_faultPlace t_at t_begin t_token t_value t_bad t_wide t_lost t_det t_mask t_mode t_wanted t_orders t_foundAt t_foundBy t_unlikes t_mem t_tape w40 w41 w42 w43 w44 w45 w46 w47 hr39) kmX8_readsPlate kvX8_readsPlate lm_X8_176 ⟨rfl, rfl⟩ ⟨Nat.le_of_ble_eq_true rfl, Nat.le_of_ble_eq_true rfl⟩ (rwV (q0 := 0) (ci := 7) hG (hP.sub [0, 1, 2] rfl) (hD.sub [0, 1, 2] (by decide) rfl) hAb hb0 hS hP rfl rfl) rfl rfl (Nat.le_of_ble_eq_true rfl) dX8_readsAll_24 ⟨Nat.le_of_ble_eq_true rfl, Nat.le_of_ble_eq_true rfl⟩) hP hD hS hA [0, 1, 2] [3, 4] rfl rfl (by decide) (by decide) (fun _ => rfl) (fun u48 H locs hP hD hS => ?_)
          have hG := hGk hS
          refine lv_goto (tgt := 67) hx hb dX8_readsAll_27 (by decide) ?_
          exact w67 _ ih w40 w41 w42 w43 w44 w45 w46 w47 t_nameAt t_nameLong _ _ (hP.sub [2, 3, 4, 0, 1] rfl) (hD.sub [2, 3, 4, 0, 1] (by decide) rfl) hS _ (lv_sub hl [0] rfl) h
  unfold fX8_readsAll at h
  exact w0 _ t_mem t_faultKind t_faultPlace t_at t_begin t_token t_value t_bad t_nameAt t_nameLong _ _ hP hD hS _ (lv_sub hl [0] rfl) h
-- X8_plate
theorem dX8_plate_0 : decode cX8_plate 0 = .ok (.iconst 0, 1) := by decide +kernel
theorem dX8_plate_1 : decode cX8_plate 1 = .ok (.istore_n 1, 1) := by decide +kernel
theorem dX8_plate_2 : decode cX8_plate 2 = .ok (.iload_n 1, 1) := by decide +kernel
theorem dX8_plate_3 : decode cX8_plate 3 = .ok (.bipush 27, 2) := by decide +kernel
theorem dX8_plate_5 : decode cX8_plate 5 = .ok (.if_icmp .ge 28, 3) := by decide +kernel
theorem dX8_plate_8 : decode cX8_plate 8 = .ok (.aload_n 0, 1) := by decide +kernel
theorem dX8_plate_9 : decode cX8_plate 9 = .ok (.getfield 25, 3) := by decide +kernel
theorem dX8_plate_12 : decode cX8_plate 12 = .ok (.iload_n 1, 1) := by decide +kernel
theorem dX8_plate_13 : decode cX8_plate 13 = .ok (.aload_n 0, 1) := by decide +kernel
theorem dX8_plate_14 : decode cX8_plate 14 = .ok (.getfield 21, 3) := by decide +kernel
theorem dX8_plate_17 : decode cX8_plate 17 = .ok (.iload_n 1, 1) := by decide +kernel
theorem dX8_plate_18 : decode cX8_plate 18 = .ok (.iaload, 1) := by decide +kernel
theorem dX8_plate_19 : decode cX8_plate 19 = .ok (.iastore, 1) := by decide +kernel
theorem dX8_plate_20 : decode cX8_plate 20 = .ok (.aload_n 0, 1) := by decide +kernel
theorem dX8_plate_21 : decode cX8_plate 21 = .ok (.getfield 21, 3) := by decide +kernel
theorem dX8_plate_24 : decode cX8_plate 24 = .ok (.iload_n 1, 1) := by decide +kernel
theorem dX8_plate_25 : decode cX8_plate 25 = .ok (.iconst 0, 1) := by decide +kernel
theorem dX8_plate_26 : decode cX8_plate 26 = .ok (.iastore, 1) := by decide +kernel
theorem dX8_plate_27 : decode cX8_plate 27 = .ok (.iinc 1 1, 3) := by decide +kernel
theorem dX8_plate_30 : decode cX8_plate 30 = .ok (.goto (-28), 3) := by decide +kernel
theorem dX8_plate_33 : decode cX8_plate 33 = .ok (.aload_n 0, 1) := by decide +kernel
theorem dX8_plate_34 : decode cX8_plate 34 = .ok (.iconst 0, 1) := by decide +kernel
theorem dX8_plate_35 : decode cX8_plate 35 = .ok (.putfield 87, 3) := by decide +kernel
theorem dX8_plate_38 : decode cX8_plate 38 = .ok (.aload_n 0, 1) := by decide +kernel
theorem dX8_plate_39 : decode cX8_plate 39 = .ok (.iconst 0, 1) := by decide +kernel
theorem dX8_plate_40 : decode cX8_plate 40 = .ok (.putfield 108, 3) := by decide +kernel
theorem dX8_plate_43 : decode cX8_plate 43 = .ok (.aload_n 0, 1) := by decide +kernel
theorem dX8_plate_44 : decode cX8_plate 44 = .ok (.iconst 0, 1) := by decide +kernel
theorem dX8_plate_45 : decode cX8_plate 45 = .ok (.putfield 112, 3) := by decide +kernel
theorem dX8_plate_48 : decode cX8_plate 48 = .ok (.aload_n 0, 1) := by decide +kernel
theorem dX8_plate_49 : decode cX8_plate 49 = .ok (.iconst (-1), 1) := by decide +kernel
theorem dX8_plate_50 : decode cX8_plate 50 = .ok (.putfield 47, 3) := by decide +kernel
theorem dX8_plate_53 : decode cX8_plate 53 = .ok (.aload_n 0, 1) := by decide +kernel
theorem dX8_plate_54 : decode cX8_plate 54 = .ok (.invokevirtual 129, 3) := by decide +kernel
theorem dX8_plate_57 : decode cX8_plate 57 = .ok (.aload_n 0, 1) := by decide +kernel
theorem dX8_plate_58 : decode cX8_plate 58 = .ok (.invokevirtual 185, 3) := by decide +kernel
theorem dX8_plate_61 : decode cX8_plate 61 = .ok (.aload_n 0, 1) := by decide +kernel
theorem dX8_plate_62 : decode cX8_plate 62 = .ok (.iconst 0, 1) := by decide +kernel
theorem dX8_plate_63 : decode cX8_plate 63 = .ok (.putfield 80, 3) := by decide +kernel
theorem dX8_plate_66 : decode cX8_plate 66 = .ok (.aload_n 0, 1) := by decide +kernel
theorem dX8_plate_67 : decode cX8_plate 67 = .ok (.getfield 108, 3) := by decide +kernel
theorem dX8_plate_70 : decode cX8_plate 70 = .ok (.ifCond .eq 32, 3) := by decide +kernel
theorem dX8_plate_73 : decode cX8_plate 73 = .ok (.iconst 0, 1) := by decide +kernel
theorem dX8_plate_74 : decode cX8_plate 74 = .ok (.istore_n 1, 1) := by decide +kernel
theorem dX8_plate_75 : decode cX8_plate 75 = .ok (.iload_n 1, 1) := by decide +kernel
theorem dX8_plate_76 : decode cX8_plate 76 = .ok (.bipush 27, 2) := by decide +kernel
theorem dX8_plate_78 : decode cX8_plate 78 = .ok (.if_icmp .ge 21, 3) := by decide +kernel
theorem dX8_plate_81 : decode cX8_plate 81 = .ok (.aload_n 0, 1) := by decide +kernel
theorem dX8_plate_82 : decode cX8_plate 82 = .ok (.getfield 21, 3) := by decide +kernel
theorem dX8_plate_85 : decode cX8_plate 85 = .ok (.iload_n 1, 1) := by decide +kernel
theorem dX8_plate_86 : decode cX8_plate 86 = .ok (.aload_n 0, 1) := by decide +kernel
theorem dX8_plate_87 : decode cX8_plate 87 = .ok (.getfield 25, 3) := by decide +kernel
theorem dX8_plate_90 : decode cX8_plate 90 = .ok (.iload_n 1, 1) := by decide +kernel
theorem dX8_plate_91 : decode cX8_plate 91 = .ok (.iaload, 1) := by decide +kernel
theorem dX8_plate_92 : decode cX8_plate 92 = .ok (.iastore, 1) := by decide +kernel
theorem dX8_plate_93 : decode cX8_plate 93 = .ok (.iinc 1 1, 3) := by decide +kernel
theorem dX8_plate_96 : decode cX8_plate 96 = .ok (.goto (-21), 3) := by decide +kernel
theorem dX8_plate_99 : decode cX8_plate 99 = .ok (.bipush (-4), 2) := by decide +kernel
theorem dX8_plate_101 : decode cX8_plate 101 = .ok (.ireturn, 1) := by decide +kernel
theorem dX8_plate_102 : decode cX8_plate 102 = .ok (.aload_n 0, 1) := by decide +kernel
theorem dX8_plate_103 : decode cX8_plate 103 = .ok (.iconst 0, 1) := by decide +kernel
theorem dX8_plate_104 : decode cX8_plate 104 = .ok (.putfield 188, 3) := by decide +kernel
theorem dX8_plate_107 : decode cX8_plate 107 = .ok (.aload_n 0, 1) := by decide +kernel
theorem dX8_plate_108 : decode cX8_plate 108 = .ok (.getfield 21, 3) := by decide +kernel
theorem dX8_plate_111 : decode cX8_plate 111 = .ok (.iconst 3, 1) := by decide +kernel
theorem dX8_plate_112 : decode cX8_plate 112 = .ok (.iaload, 1) := by decide +kernel
theorem dX8_plate_113 : decode cX8_plate 113 = .ok (.ireturn, 1) := by decide +kernel
noncomputable def fX8_plate_75  : Nat → (Nat → Int32) → (Nat → Int32) → Int32 → Int32 → Int32 → Int32 → Int32 → Int32 → Int32 → Int32 → Int32 → (Nat → Int32) → (Nat → Int32) → Int32 → Option (Int32 × (Nat → Int32) × (Nat → Int32) × Int32 × Int32 × Int32 × Int32 × Int32 × Int32 × Int32 × Int32 × Int32 × (Nat → Int32) × (Nat → Int32))
  | 0, _, _, _, _, _, _, _, _, _, _, _, _, _, _ => none
  | n + 1, t_mem, t_was, t_acted, t_taped, t_faultKind, t_faultPlace, t_at, t_begin, t_token, t_value, t_bad, t_nameAt, t_nameLong, v1 => (if 27 ≤ v1 then some ((-4), t_mem, t_was, t_acted, t_taped, t_faultKind, t_faultPlace, t_at, t_begin, t_token, t_value, t_bad, t_nameAt, t_nameLong) else chk 27 v1 (chk 27 v1 (fX8_plate_75 n (upd t_mem v1.toNatClampNeg (t_was v1.toNatClampNeg)) t_was t_acted t_taped t_faultKind t_faultPlace t_at t_begin t_token t_value t_bad t_nameAt t_nameLong (v1 + 1))))
theorem fX8_plate_75_z  (t_mem : Nat → Int32) (t_was : Nat → Int32) (t_acted : Int32) (t_taped : Int32) (t_faultKind : Int32) (t_faultPlace : Int32) (t_at : Int32) (t_begin : Int32) (t_token : Int32) (t_value : Int32) (t_bad : Int32) (t_nameAt : Nat → Int32) (t_nameLong : Nat → Int32) (v1 : Int32) : fX8_plate_75  0 t_mem t_was t_acted t_taped t_faultKind t_faultPlace t_at t_begin t_token t_value t_bad t_nameAt t_nameLong v1 = none := rfl
theorem fX8_plate_75_s  (n : Nat) (t_mem : Nat → Int32) (t_was : Nat → Int32) (t_acted : Int32) (t_taped : Int32) (t_faultKind : Int32) (t_faultPlace : Int32) (t_at : Int32) (t_begin : Int32) (t_token : Int32) (t_value : Int32) (t_bad : Int32) (t_nameAt : Nat → Int32) (t_nameLong : Nat → Int32) (v1 : Int32) : fX8_plate_75  (n + 1) t_mem t_was t_acted t_taped t_faultKind t_faultPlace t_at t_begin t_token t_value t_bad t_nameAt t_nameLong v1 = (if 27 ≤ v1 then some ((-4), t_mem, t_was, t_acted, t_taped, t_faultKind, t_faultPlace, t_at, t_begin, t_token, t_value, t_bad, t_nameAt, t_nameLong) else chk 27 v1 (chk 27 v1 (fX8_plate_75 n (upd t_mem v1.toNatClampNeg (t_was v1.toNatClampNeg)) t_was t_acted t_taped t_faultKind t_faultPlace t_at t_begin t_token t_value t_bad t_nameAt t_nameLong (v1 + 1)))) := rfl
noncomputable def fX8_plate_33  (t_mem : Nat → Int32) (t_was : Nat → Int32) (t_acted : Int32) (t_tape : Nat → Int32) (t_taped : Int32) (t_faultKind : Int32) (t_faultPlace : Int32) (t_at : Int32) (t_begin : Int32) (t_token : Int32) (t_value : Int32) (t_bad : Int32) (t_nameAt : Nat → Int32) (t_nameLong : Nat → Int32) : Option (Int32 × (Nat → Int32) × (Nat → Int32) × Int32 × Int32 × Int32 × Int32 × Int32 × Int32 × Int32 × Int32 × Int32 × (Nat → Int32) × (Nat → Int32)) := ob4 (fX8_next t_tape t_taped 0 t_begin t_token t_value) fun w6 w7 w8 w9 => ob10 (fX8_readsAll t_mem t_tape t_taped 0 (-1) w6 w7 w8 w9 0 t_nameAt t_nameLong) fun w12 w13 w14 w15 w16 w17 w18 w19 w20 w21 => (if w19 = 0 then some ((w12 3), w12, t_was, 0, 0, w13, w14, w15, w16, w17, w18, w19, w20, w21) else fX8_plate_75 FU w12 t_was t_acted 0 w13 w14 w15 w16 w17 w18 w19 w20 w21 0)
noncomputable def fX8_plate_2  : Nat → (Nat → Int32) → (Nat → Int32) → Int32 → (Nat → Int32) → Int32 → Int32 → Int32 → Int32 → Int32 → Int32 → Int32 → Int32 → (Nat → Int32) → (Nat → Int32) → Int32 → Option (Int32 × (Nat → Int32) × (Nat → Int32) × Int32 × Int32 × Int32 × Int32 × Int32 × Int32 × Int32 × Int32 × Int32 × (Nat → Int32) × (Nat → Int32))
  | 0, _, _, _, _, _, _, _, _, _, _, _, _, _, _, _ => none
  | n + 1, t_mem, t_was, t_acted, t_tape, t_taped, t_faultKind, t_faultPlace, t_at, t_begin, t_token, t_value, t_bad, t_nameAt, t_nameLong, v1 => (if 27 ≤ v1 then fX8_plate_33 t_mem t_was t_acted t_tape t_taped t_faultKind t_faultPlace t_at t_begin t_token t_value t_bad t_nameAt t_nameLong else chk 27 v1 (chk 27 v1 (chk 27 v1 (fX8_plate_2 n (upd t_mem v1.toNatClampNeg 0) (upd t_was v1.toNatClampNeg (t_mem v1.toNatClampNeg)) t_acted t_tape t_taped t_faultKind t_faultPlace t_at t_begin t_token t_value t_bad t_nameAt t_nameLong (v1 + 1)))))
theorem fX8_plate_2_z  (t_mem : Nat → Int32) (t_was : Nat → Int32) (t_acted : Int32) (t_tape : Nat → Int32) (t_taped : Int32) (t_faultKind : Int32) (t_faultPlace : Int32) (t_at : Int32) (t_begin : Int32) (t_token : Int32) (t_value : Int32) (t_bad : Int32) (t_nameAt : Nat → Int32) (t_nameLong : Nat → Int32) (v1 : Int32) : fX8_plate_2  0 t_mem t_was t_acted t_tape t_taped t_faultKind t_faultPlace t_at t_begin t_token t_value t_bad t_nameAt t_nameLong v1 = none := rfl
theorem fX8_plate_2_s  (n : Nat) (t_mem : Nat → Int32) (t_was : Nat → Int32) (t_acted : Int32) (t_tape : Nat → Int32) (t_taped : Int32) (t_faultKind : Int32) (t_faultPlace : Int32) (t_at : Int32) (t_begin : Int32) (t_token : Int32) (t_value : Int32) (t_bad : Int32) (t_nameAt : Nat → Int32) (t_nameLong : Nat → Int32) (v1 : Int32) : fX8_plate_2  (n + 1) t_mem t_was t_acted t_tape t_taped t_faultKind t_faultPlace t_at t_begin t_token t_value t_bad t_nameAt t_nameLong v1 = (if 27 ≤ v1 then fX8_plate_33 t_mem t_was t_acted t_tape t_taped t_faultKind t_faultPlace t_at t_begin t_token t_value t_bad t_nameAt t_nameLong else chk 27 v1 (chk 27 v1 (chk 27 v1 (fX8_plate_2 n (upd t_mem v1.toNatClampNeg 0) (upd t_was v1.toNatClampNeg (t_mem v1.toNatClampNeg)) t_acted t_tape t_taped t_faultKind t_faultPlace t_at t_begin t_token t_value t_bad t_nameAt t_nameLong (v1 + 1))))) := rfl
noncomputable def fX8_plate  (t_mem : Nat → Int32) (t_was : Nat → Int32) (t_acted : Int32) (t_tape : Nat → Int32) (t_taped : Int32) (t_faultKind : Int32) (t_faultPlace : Int32) (t_at : Int32) (t_begin : Int32) (t_token : Int32) (t_value : Int32) (t_bad : Int32) (t_nameAt : Nat → Int32) (t_nameLong : Nat → Int32) : Option (Int32 × (Nat → Int32) × (Nat → Int32) × Int32 × Int32 × Int32 × Int32 × Int32 × Int32 × Int32 × Int32 × Int32 × (Nat → Int32) × (Nat → Int32)) := fX8_plate_2 FU t_mem t_was t_acted t_tape t_taped t_faultKind t_faultPlace t_at t_begin t_token t_value t_bad t_nameAt t_nameLong 0
set_option maxHeartbeats 4000000 in
set_option maxRecDepth 100000 in
theorem ctX8_plate (l : Launch) (g : GT) (sz : Nat) (a_t : Nat → Nat) (t_acted : Int32) (t_taped : Int32) (t_faultKind : Int32) (t_faultPlace : Int32) (t_at : Int32) (t_begin : Int32) (t_token : Int32) (t_value : Int32) (t_bad : Int32) (t_wide : Int32) (t_lost : Int32) (t_det : Int64) (t_mask : Int32) (t_mode : Int32) (t_wanted : Int32) (t_orders : Int32) (t_foundAt : Int32) (t_foundBy : Int64) (t_unlikes : Int32) (t_mem : Nat → Int32) (t_was : Nat → Int32) (t_tape : Nat → Int32) (t_nameAt : Nat → Int32) (t_nameLong : Nat → Int32) (o : Int32) (o_t_mem : Nat → Int32) (o_t_was : Nat → Int32) (o_t_acted : Int32) (o_t_taped : Int32) (o_t_faultKind : Int32) (o_t_faultPlace : Int32) (o_t_at : Int32) (o_t_begin : Int32) (o_t_token : Int32) (o_t_value : Int32) (o_t_bad : Int32) (o_t_nameAt : Nat → Int32) (o_t_nameLong : Nat → Int32) (h : fX8_plate t_mem t_was t_acted t_tape t_taped t_faultKind t_faultPlace t_at t_begin t_token t_value t_bad t_nameAt t_nameLong = some (o, o_t_mem, o_t_was, o_t_acted, o_t_taped, o_t_faultKind, o_t_faultPlace, o_t_at, o_t_begin, o_t_token, o_t_value, o_t_bad, o_t_nameAt, o_t_nameLong)) : Met l yX8_plate (Cond.code yX8_plate cX8_plate 2 (some .int) :: Tw) ⟨12, 0, 0, 245⟩ (va_Pc [.ref ((a_t 0))] (rwB g [((a_t 0), .inr (7, [.ref (a_t 1), .ref (a_t 2), .int t_acted, .ref (a_t 4), .ref (a_t 5), .ref (a_t 6), .ref (a_t 7), .ref (a_t 8), .ref (a_t 9), .int t_taped, .int t_faultKind, .int t_faultPlace, .int t_at, .int t_begin, .int t_token, .int t_value, .int t_bad, .ref (a_t 18), .ref (a_t 19), .ref (a_t 20), .int t_wide, .int t_lost, .ref (a_t 23), .long t_det, .ref (a_t 25), .int t_mask, .int t_mode, .int t_wanted, .int t_orders, .int t_foundAt, .long t_foundBy, .ref (a_t 32), .ref (a_t 33), .int t_unlikes, .ref (a_t 35), .ref (a_t 36)])), ((a_t 1), .inl (g.2.2.1 0, 27, .inl t_mem)), ((a_t 2), .inl (g.2.2.1 0, 27, .inl t_was)), ((a_t 9), .inl (g.2.2.1 0, 600, .inl t_tape)), ((a_t 18), .inl (g.2.2.1 0, 3, .inl t_nameAt)), ((a_t 19), .inl (g.2.2.1 0, 3, .inl t_nameLong))] sz)) (va_Qi (fun x (_ : Nat → Nat) => x = o) (fun u => rwE g (va_A [((a_t 0), .inr (7, [.ref (a_t 1), .ref (a_t 2), .int t_acted, .ref (a_t 4), .ref (a_t 5), .ref (a_t 6), .ref (a_t 7), .ref (a_t 8), .ref (a_t 9), .int t_taped, .int t_faultKind, .int t_faultPlace, .int t_at, .int t_begin, .int t_token, .int t_value, .int t_bad, .ref (a_t 18), .ref (a_t 19), .ref (a_t 20), .int t_wide, .int t_lost, .ref (a_t 23), .long t_det, .ref (a_t 25), .int t_mask, .int t_mode, .int t_wanted, .int t_orders, .int t_foundAt, .long t_foundBy, .ref (a_t 32), .ref (a_t 33), .int t_unlikes, .ref (a_t 35), .ref (a_t 36)])), ((a_t 1), .inl (g.2.2.1 0, 27, .inl t_mem)), ((a_t 2), .inl (g.2.2.1 0, 27, .inl t_was)), ((a_t 9), .inl (g.2.2.1 0, 600, .inl t_tape)), ((a_t 18), .inl (g.2.2.1 0, 3, .inl t_nameAt)), ((a_t 19), .inl (g.2.2.1 0, 3, .inl t_nameLong))] sz) [((a_t 0), .inr (7, [.ref (a_t 1), .ref (a_t 2), .int o_t_acted, .ref (a_t 4), .ref (a_t 5), .ref (a_t 6), .ref (a_t 7), .ref (a_t 8), .ref (a_t 9), .int o_t_taped, .int o_t_faultKind, .int o_t_faultPlace, .int o_t_at, .int o_t_begin, .int o_t_token, .int o_t_value, .int o_t_bad, .ref (a_t 18), .ref (a_t 19), .ref (a_t 20), .int t_wide, .int t_lost, .ref (a_t 23), .long t_det, .ref (a_t 25), .int t_mask, .int t_mode, .int t_wanted, .int t_orders, .int t_foundAt, .long t_foundBy, .ref (a_t 32), .ref (a_t 33), .int t_unlikes, .ref (a_t 35), .ref (a_t 36)])), ((a_t 1), .inl (g.2.2.1 0, 27, .inl o_t_mem)), ((a_t 2), .inl (g.2.2.1 0, 27, .inl o_t_was)), ((a_t 9), .inl (g.2.2.1 0, 600, .inl t_tape)), ((a_t 18), .inl (g.2.2.1 0, 3, .inl o_t_nameAt)), ((a_t 19), .inl (g.2.2.1 0, 3, .inl o_t_nameLong))]) (va_A [((a_t 0), .inr (7, [.ref (a_t 1), .ref (a_t 2), .int t_acted, .ref (a_t 4), .ref (a_t 5), .ref (a_t 6), .ref (a_t 7), .ref (a_t 8), .ref (a_t 9), .int t_taped, .int t_faultKind, .int t_faultPlace, .int t_at, .int t_begin, .int t_token, .int t_value, .int t_bad, .ref (a_t 18), .ref (a_t 19), .ref (a_t 20), .int t_wide, .int t_lost, .ref (a_t 23), .long t_det, .ref (a_t 25), .int t_mask, .int t_mode, .int t_wanted, .int t_orders, .int t_foundAt, .long t_foundBy, .ref (a_t 32), .ref (a_t 33), .int t_unlikes, .ref (a_t 35), .ref (a_t 36)])), ((a_t 1), .inl (g.2.2.1 0, 27, .inl t_mem)), ((a_t 2), .inl (g.2.2.1 0, 27, .inl t_was)), ((a_t 9), .inl (g.2.2.1 0, 600, .inl t_tape)), ((a_t 18), .inl (g.2.2.1 0, 3, .inl t_nameAt)), ((a_t 19), .inl (g.2.2.1 0, 3, .inl t_nameLong))] sz)) 0 0 (va_A [((a_t 0), .inr (7, [.ref (a_t 1), .ref (a_t 2), .int t_acted, .ref (a_t 4), .ref (a_t 5), .ref (a_t 6), .ref (a_t 7), .ref (a_t 8), .ref (a_t 9), .int t_taped, .int t_faultKind, .int t_faultPlace, .int t_at, .int t_begin, .int t_token, .int t_value, .int t_bad, .ref (a_t 18), .ref (a_t 19), .ref (a_t 20), .int t_wide, .int t_lost, .ref (a_t 23), .long t_det, .ref (a_t 25), .int t_mask, .int t_mode, .int t_wanted, .int t_orders, .int t_foundAt, .long t_foundBy, .ref (a_t 32), .ref (a_t 33), .int t_unlikes, .ref (a_t 35), .ref (a_t 36)])), ((a_t 1), .inl (g.2.2.1 0, 27, .inl t_mem)), ((a_t 2), .inl (g.2.2.1 0, 27, .inl t_was)), ((a_t 9), .inl (g.2.2.1 0, 600, .inl t_tape)), ((a_t 18), .inl (g.2.2.1 0, 3, .inl t_nameAt)), ((a_t 19), .inl (g.2.2.1 0, 3, .inl t_nameLong))] sz) := by
  refine rw_meti (by decide) (Nat.le_of_ble_eq_true rfl) (lv0 := [(0, .ref ((a_t 0)))]) rfl ?_
  intro p e s m args below meth c ls Q A cx hret hG hAb hb0 hA hP hD hl
  have hx := cx.1
  have hb := cx.2.1
  have hG0 := hG
  have hGk : ∀ {H : Heap} {locs : List Loc}, va_S A s.heap H locs → GE g s H := fun hS => hG0.keptS hAb hS
  have hSb : ∀ {H : Heap} {locs : List Loc}, va_S A s.heap H locs → va_S (fun a => g.1 ≤ a) s.heap H locs := fun hS => ⟨hS.1, fun q h1 h2 => hS.2.1 q h1 (fun z => h2 (hAb q z)), fun l hl => hAb _ (hS.2.2 l hl)⟩
  have hS : va_S A s.heap s.heap [] := va_S.rf
  have hrt : ∀ (u : Nat → Nat) (pc : Nat) (ls : Array Slot) (v : Int32) (x_t_mem : Nat → Int32) (x_t_was : Nat → Int32) (x_t_acted : Int32) (x_t_taped : Int32) (x_t_faultKind : Int32) (x_t_faultPlace : Int32) (x_t_at : Int32) (x_t_begin : Int32) (x_t_token : Int32) (x_t_value : Int32) (x_t_bad : Int32) (x_t_nameAt : Nat → Int32) (x_t_nameLong : Nat → Int32) (H : Heap) (locs : List Loc), decode cX8_plate pc = .ok (.ireturn, 1) → some (v, x_t_mem, x_t_was, x_t_acted, x_t_taped, x_t_faultKind, x_t_faultPlace, x_t_at, x_t_begin, x_t_token, x_t_value, x_t_bad, x_t_nameAt, x_t_nameLong) = some (o, o_t_mem, o_t_was, o_t_acted, o_t_taped, o_t_faultKind, o_t_faultPlace, o_t_at, o_t_begin, o_t_token, o_t_value, o_t_bad, o_t_nameAt, o_t_nameLong) → va_P g.2.1 vwCl [((a_t 0), .inr (7, [.ref (a_t 1), .ref (a_t 2), .int x_t_acted, .ref (a_t 4), .ref (a_t 5), .ref (a_t 6), .ref (a_t 7), .ref (a_t 8), .ref (a_t 9), .int x_t_taped, .int x_t_faultKind, .int x_t_faultPlace, .int x_t_at, .int x_t_begin, .int x_t_token, .int x_t_value, .int x_t_bad, .ref (a_t 18), .ref (a_t 19), .ref (a_t 20), .int t_wide, .int t_lost, .ref (a_t 23), .long t_det, .ref (a_t 25), .int t_mask, .int t_mode, .int t_wanted, .int t_orders, .int t_foundAt, .long t_foundBy, .ref (a_t 32), .ref (a_t 33), .int t_unlikes, .ref (a_t 35), .ref (a_t 36)])), ((a_t 1), .inl (g.2.2.1 0, 27, .inl x_t_mem)), ((a_t 2), .inl (g.2.2.1 0, 27, .inl x_t_was)), ((a_t 9), .inl (g.2.2.1 0, 600, .inl t_tape)), ((a_t 18), .inl (g.2.2.1 0, 3, .inl x_t_nameAt)), ((a_t 19), .inl (g.2.2.1 0, 3, .inl x_t_nameLong))] H → va_D A [((a_t 0), .inr (7, [.ref (a_t 1), .ref (a_t 2), .int x_t_acted, .ref (a_t 4), .ref (a_t 5), .ref (a_t 6), .ref (a_t 7), .ref (a_t 8), .ref (a_t 9), .int x_t_taped, .int x_t_faultKind, .int x_t_faultPlace, .int x_t_at, .int x_t_begin, .int x_t_token, .int x_t_value, .int x_t_bad, .ref (a_t 18), .ref (a_t 19), .ref (a_t 20), .int t_wide, .int t_lost, .ref (a_t 23), .long t_det, .ref (a_t 25), .int t_mask, .int t_mode, .int t_wanted, .int t_orders, .int t_foundAt, .long t_foundBy, .ref (a_t 32), .ref (a_t 33), .int t_unlikes, .ref (a_t 35), .ref (a_t 36)])), ((a_t 1), .inl (g.2.2.1 0, 27, .inl x_t_mem)), ((a_t 2), .inl (g.2.2.1 0, 27, .inl x_t_was)), ((a_t 9), .inl (g.2.2.1 0, 600, .inl t_tape)), ((a_t 18), .inl (g.2.2.1 0, 3, .inl x_t_nameAt)), ((a_t 19), .inl (g.2.2.1 0, 3, .inl x_t_nameLong))] → va_S A s.heap H locs → W p l e ⟨12, 0, 0, 245⟩ s m args below meth c H locs 0 0 Q (F0 m pc ls [.int v]) := by
    intro u pc ls v x_t_mem x_t_was x_t_acted x_t_taped x_t_faultKind x_t_faultPlace x_t_at x_t_begin x_t_token x_t_value x_t_bad x_t_nameAt x_t_nameLong H locs hd h hP hD hS
    cases h
    exact hret u _ _ _ _ _ hd rfl hP hD hS
  have w75 : ∀ (n : Nat) (t_mem : Nat → Int32) (t_was : Nat → Int32) (t_acted : Int32) (t_taped : Int32) (t_faultKind : Int32) (t_faultPlace : Int32) (t_at : Int32) (t_begin : Int32) (t_token : Int32) (t_value : Int32) (t_bad : Int32) (t_nameAt : Nat → Int32) (t_nameLong : Nat → Int32) (v1 : Int32) (H : Heap) (locs : List Loc), va_P g.2.1 vwCl [((a_t 0), .inr (7, [.ref (a_t 1), .ref (a_t 2), .int t_acted, .ref (a_t 4), .ref (a_t 5), .ref (a_t 6), .ref (a_t 7), .ref (a_t 8), .ref (a_t 9), .int t_taped, .int t_faultKind, .int t_faultPlace, .int t_at, .int t_begin, .int t_token, .int t_value, .int t_bad, .ref (a_t 18), .ref (a_t 19), .ref (a_t 20), .int t_wide, .int t_lost, .ref (a_t 23), .long t_det, .ref (a_t 25), .int t_mask, .int t_mode, .int t_wanted, .int t_orders, .int t_foundAt, .long t_foundBy, .ref (a_t 32), .ref (a_t 33), .int t_unlikes, .ref (a_t 35), .ref (a_t 36)])), ((a_t 1), .inl (g.2.2.1 0, 27, .inl t_mem)), ((a_t 2), .inl (g.2.2.1 0, 27, .inl t_was)), ((a_t 9), .inl (g.2.2.1 0, 600, .inl t_tape)), ((a_t 18), .inl (g.2.2.1 0, 3, .inl t_nameAt)), ((a_t 19), .inl (g.2.2.1 0, 3, .inl t_nameLong))] H → va_D A [((a_t 0), .inr (7, [.ref (a_t 1), .ref (a_t 2), .int t_acted, .ref (a_t 4), .ref (a_t 5), .ref (a_t 6), .ref (a_t 7), .ref (a_t 8), .ref (a_t 9), .int t_taped, .int t_faultKind, .int t_faultPlace, .int t_at, .int t_begin, .int t_token, .int t_value, .int t_bad, .ref (a_t 18), .ref (a_t 19), .ref (a_t 20), .int t_wide, .int t_lost, .ref (a_t 23), .long t_det, .ref (a_t 25), .int t_mask, .int t_mode, .int t_wanted, .int t_orders, .int t_foundAt, .long t_foundBy, .ref (a_t 32), .ref (a_t 33), .int t_unlikes, .ref (a_t 35), .ref (a_t 36)])), ((a_t 1), .inl (g.2.2.1 0, 27, .inl t_mem)), ((a_t 2), .inl (g.2.2.1 0, 27, .inl t_was)), ((a_t 9), .inl (g.2.2.1 0, 600, .inl t_tape)), ((a_t 18), .inl (g.2.2.1 0, 3, .inl t_nameAt)), ((a_t 19), .inl (g.2.2.1 0, 3, .inl t_nameLong))] → va_S A s.heap H locs → ∀ (ls : Array Slot), lv_has ls 2 [(0, .ref ((a_t 0))), (1, .int v1)] → fX8_plate_75  n t_mem t_was t_acted t_taped t_faultKind t_faultPlace t_at t_begin t_token t_value t_bad t_nameAt t_nameLong v1 = some (o, o_t_mem, o_t_was, o_t_acted, o_t_taped, o_t_faultKind, o_t_faultPlace, o_t_at, o_t_begin, o_t_token, o_t_value, o_t_bad, o_t_nameAt, o_t_nameLong) → W p l e ⟨12, 0, 0, 245⟩ s m args below meth c H locs 0 0 Q (F0 m 75 ls []) := by
    intro n
    induction n with
    | zero => intro t_mem t_was t_acted t_taped t_faultKind t_faultPlace t_at t_begin t_token t_value t_bad t_nameAt t_nameLong v1 H locs hP hD hS ls hl h; cases (fX8_plate_75_z  t_mem t_was t_acted t_taped t_faultKind t_faultPlace t_at t_begin t_token t_value t_bad t_nameAt t_nameLong v1).symm.trans h
    | succ n ih =>
    intro t_mem t_was t_acted t_taped t_faultKind t_faultPlace t_at t_begin t_token t_value t_bad t_nameAt t_nameLong v1 H locs hP hD hS ls hl h
    have h := (fX8_plate_75_s  n t_mem t_was t_acted t_taped t_faultKind t_faultPlace t_at t_begin t_token t_value t_bad t_nameAt t_nameLong v1).symm.trans h
    have hG := hGk hS
    refine lv_iload_n hx hb dX8_plate_75 rfl (lv_at hl 1 rfl) ?_
    refine lv_bipush (v := 27) hx hb dX8_plate_76 (by decide) ?_
    refine lv_icmp_ge (tgt := 99) hx hb dX8_plate_78 (by decide) (fun c24 => ?_) (fun c24 => ?_)
    · have h := itp c24 h
      refine lv_bipush (v := -4) hx hb dX8_plate_99 (by decide) ?_
      exact hrt (fun _ => 0) _ _ ((-4)) t_mem t_was t_acted t_taped t_faultKind t_faultPlace t_at t_begin t_token t_value t_bad t_nameAt t_nameLong _ _ dX8_plate_101 h (hP.sub [0, 1, 2, 3, 4, 5] rfl) (hD.sub [0, 1, 2, 3, 4, 5] (by decide) rfl) hS
    · have h := itn c24 h
      refine lv_aload_n hx hb dX8_plate_81 rfl (lv_at hl 0 rfl) ?_
      refine xa_get (C := RX8) (T := TX8) (N := 36) cx hG hP 0 rfl rfl uX8 0 (by decide) lf_X8_21 rfl dX8_plate_82 ?_
      refine lv_iload_n hx hb dX8_plate_85 rfl (lv_at hl 1 rfl) ?_
      refine lv_aload_n hx hb dX8_plate_86 rfl (lv_at hl 0 rfl) ?_
      refine xa_get (C := RX8) (T := TX8) (N := 36) cx hG hP 0 rfl rfl uX8 1 (by decide) lf_X8_25 rfl dX8_plate_87 ?_
      refine lv_iload_n hx hb dX8_plate_90 rfl (lv_at hl 1 rfl) ?_
      obtain ⟨hi25, h⟩ := chk_out h
      refine xa_iald cx hG hP 2 rfl hi25 rfl dX8_plate_91 ?_
      obtain ⟨hi26, h⟩ := chk_out h
      refine xw_iast (ws' := [((a_t 0), .inr (7, [.ref (a_t 1), .ref (a_t 2), .int t_acted, .ref (a_t 4), .ref (a_t 5), .ref (a_t 6), .ref (a_t 7), .ref (a_t 8), .ref (a_t 9), .int t_taped, .int t_faultKind, .int t_faultPlace, .int t_at, .int t_begin, .int t_token, .int t_value, .int t_bad, .ref (a_t 18), .ref (a_t 19), .ref (a_t 20), .int t_wide, .int t_lost, .ref (a_t 23), .long t_det, .ref (a_t 25), .int t_mask, .int t_mode, .int t_wanted, .int t_orders, .int t_foundAt, .long t_foundBy, .ref (a_t 32), .ref (a_t 33), .int t_unlikes, .ref (a_t 35), .ref (a_t 36)])), ((a_t 1), .inl (g.2.2.1 0, 27, .inl (upd t_mem v1.toNatClampNeg (t_was v1.toNatClampNeg)))), ((a_t 2), .inl (g.2.2.1 0, 27, .inl t_was)), ((a_t 9), .inl (g.2.2.1 0, 600, .inl t_tape)), ((a_t 18), .inl (g.2.2.1 0, 3, .inl t_nameAt)), ((a_t 19), .inl (g.2.2.1 0, 3, .inl t_nameLong))]) (k := v1.toNatClampNeg) cx hG hP hD hS 1 rfl hi26 rfl rfl dX8_plate_92 (fun H locs hP hD hS => ?_)
      have hG := hGk hS
      refine lv_iinc (v := v1 + 1) (lv' := [(1, .int (v1 + 1)), (0, .ref ((a_t 0)))]) hx hb dX8_plate_93 hl (k := 1) rfl rfl (by decide) rfl (fun ls hl => ?_)
      refine lv_goto (tgt := 75) hx hb dX8_plate_96 (by decide) ?_
      exact ih (upd t_mem v1.toNatClampNeg (t_was v1.toNatClampNeg)) t_was t_acted t_taped t_faultKind t_faultPlace t_at t_begin t_token t_value t_bad t_nameAt t_nameLong (v1 + 1) _ _ hP hD hS _ (lv_sub hl [1, 0] rfl) h
  have w33 : ∀ (t_mem : Nat → Int32) (t_was : Nat → Int32) (t_acted : Int32) (t_taped : Int32) (t_faultKind : Int32) (t_faultPlace : Int32) (t_at : Int32) (t_begin : Int32) (t_token : Int32) (t_value : Int32) (t_bad : Int32) (t_nameAt : Nat → Int32) (t_nameLong : Nat → Int32) (H : Heap) (locs : List Loc), va_P g.2.1 vwCl [((a_t 0), .inr (7, [.ref (a_t 1), .ref (a_t 2), .int t_acted, .ref (a_t 4), .ref (a_t 5), .ref (a_t 6), .ref (a_t 7), .ref (a_t 8), .ref (a_t 9), .int t_taped, .int t_faultKind, .int t_faultPlace, .int t_at, .int t_begin, .int t_token, .int t_value, .int t_bad, .ref (a_t 18), .ref (a_t 19), .ref (a_t 20), .int t_wide, .int t_lost, .ref (a_t 23), .long t_det, .ref (a_t 25), .int t_mask, .int t_mode, .int t_wanted, .int t_orders, .int t_foundAt, .long t_foundBy, .ref (a_t 32), .ref (a_t 33), .int t_unlikes, .ref (a_t 35), .ref (a_t 36)])), ((a_t 1), .inl (g.2.2.1 0, 27, .inl t_mem)), ((a_t 2), .inl (g.2.2.1 0, 27, .inl t_was)), ((a_t 9), .inl (g.2.2.1 0, 600, .inl t_tape)), ((a_t 18), .inl (g.2.2.1 0, 3, .inl t_nameAt)), ((a_t 19), .inl (g.2.2.1 0, 3, .inl t_nameLong))] H → va_D A [((a_t 0), .inr (7, [.ref (a_t 1), .ref (a_t 2), .int t_acted, .ref (a_t 4), .ref (a_t 5), .ref (a_t 6), .ref (a_t 7), .ref (a_t 8), .ref (a_t 9), .int t_taped, .int t_faultKind, .int t_faultPlace, .int t_at, .int t_begin, .int t_token, .int t_value, .int t_bad, .ref (a_t 18), .ref (a_t 19), .ref (a_t 20), .int t_wide, .int t_lost, .ref (a_t 23), .long t_det, .ref (a_t 25), .int t_mask, .int t_mode, .int t_wanted, .int t_orders, .int t_foundAt, .long t_foundBy, .ref (a_t 32), .ref (a_t 33), .int t_unlikes, .ref (a_t 35), .ref (a_t 36)])), ((a_t 1), .inl (g.2.2.1 0, 27, .inl t_mem)), ((a_t 2), .inl (g.2.2.1 0, 27, .inl t_was)), ((a_t 9), .inl (g.2.2.1 0, 600, .inl t_tape)), ((a_t 18), .inl (g.2.2.1 0, 3, .inl t_nameAt)), ((a_t 19), .inl (g.2.2.1 0, 3, .inl t_nameLong))] → va_S A s.heap H locs → ∀ (ls : Array Slot), lv_has ls 2 [(0, .ref ((a_t 0)))] → fX8_plate_33  t_mem t_was t_acted t_tape t_taped t_faultKind t_faultPlace t_at t_begin t_token t_value t_bad t_nameAt t_nameLong = some (o, o_t_mem, o_t_was, o_t_acted, o_t_taped, o_t_faultKind, o_t_faultPlace, o_t_at, o_t_begin, o_t_token, o_t_value, o_t_bad, o_t_nameAt, o_t_nameLong) → W p l e ⟨12, 0, 0, 245⟩ s m args below meth c H locs 0 0 Q (F0 m 33 ls []) := by
    intro t_mem t_was t_acted t_taped t_faultKind t_faultPlace t_at t_begin t_token t_value t_bad t_nameAt t_nameLong H locs hP hD hS ls hl h
    unfold fX8_plate_33 at h
    have hG := hGk hS
    refine lv_aload_n hx hb dX8_plate_33 rfl (lv_at hl 0 rfl) ?_
    refine lv_iconst (v := 0) hx hb dX8_plate_34 (by decide) ?_
    refine xw_put (C := RX8) (T := TX8) (N := 36) (ty := .int) (v := .int (0)) (ws' := [((a_t 0), .inr (7, [.ref (a_t 1), .ref (a_t 2), .int t_acted, .ref (a_t 4), .ref (a_t 5), .ref (a_t 6), .ref (a_t 7), .ref (a_t 8), .ref (a_t 9), .int t_taped, .int t_faultKind, .int t_faultPlace, .int 0, .int t_begin, .int t_token, .int t_value, .int t_bad, .ref (a_t 18), .ref (a_t 19), .ref (a_t 20), .int t_wide, .int t_lost, .ref (a_t 23), .long t_det, .ref (a_t 25), .int t_mask, .int t_mode, .int t_wanted, .int t_orders, .int t_foundAt, .long t_foundBy, .ref (a_t 32), .ref (a_t 33), .int t_unlikes, .ref (a_t 35), .ref (a_t 36)])), ((a_t 1), .inl (g.2.2.1 0, 27, .inl t_mem)), ((a_t 2), .inl (g.2.2.1 0, 27, .inl t_was)), ((a_t 9), .inl (g.2.2.1 0, 600, .inl t_tape)), ((a_t 18), .inl (g.2.2.1 0, 3, .inl t_nameAt)), ((a_t 19), .inl (g.2.2.1 0, 3, .inl t_nameLong))]) cx hG hP hD hS 0 rfl rfl uX8 tyX8 tyX8_ok nmX8 12 (by decide) lf_X8_87 rfl (by decide +kernel) rfl rfl (Nat.le_of_ble_eq_true rfl) rfl dX8_plate_35 (fun H locs hP hD hS => ?_)
    have hG := hGk hS
    refine lv_aload_n hx hb dX8_plate_38 rfl (lv_at hl 0 rfl) ?_
    refine lv_iconst (v := 0) hx hb dX8_plate_39 (by decide) ?_
    refine xw_put (C := RX8) (T := TX8) (N := 36) (ty := .boolean) (v := .int (0)) (ws' := [((a_t 0), .inr (7, [.ref (a_t 1), .ref (a_t 2), .int t_acted, .ref (a_t 4), .ref (a_t 5), .ref (a_t 6), .ref (a_t 7), .ref (a_t 8), .ref (a_t 9), .int t_taped, .int t_faultKind, .int t_faultPlace, .int 0, .int t_begin, .int t_token, .int t_value, .int 0, .ref (a_t 18), .ref (a_t 19), .ref (a_t 20), .int t_wide, .int t_lost, .ref (a_t 23), .long t_det, .ref (a_t 25), .int t_mask, .int t_mode, .int t_wanted, .int t_orders, .int t_foundAt, .long t_foundBy, .ref (a_t 32), .ref (a_t 33), .int t_unlikes, .ref (a_t 35), .ref (a_t 36)])), ((a_t 1), .inl (g.2.2.1 0, 27, .inl t_mem)), ((a_t 2), .inl (g.2.2.1 0, 27, .inl t_was)), ((a_t 9), .inl (g.2.2.1 0, 600, .inl t_tape)), ((a_t 18), .inl (g.2.2.1 0, 3, .inl t_nameAt)), ((a_t 19), .inl (g.2.2.1 0, 3, .inl t_nameLong))]) cx hG hP hD hS 0 rfl rfl uX8 tyX8 tyX8_ok nmX8 16 (by decide) lf_X8_108 rfl (by decide +kernel) rfl rfl (Nat.le_of_ble_eq_true rfl) rfl dX8_plate_40 (fun H locs hP hD hS => ?_)
    have hG := hGk hS
    refine lv_aload_n hx hb dX8_plate_43 rfl (lv_at hl 0 rfl) ?_
    refine lv_iconst (v := 0) hx hb dX8_plate_44 (by decide) ?_
    refine xw_put (C := RX8) (T := TX8) (N := 36) (ty := .int) (v := .int (0)) (ws' := [((a_t 0), .inr (7, [.ref (a_t 1), .ref (a_t 2), .int t_acted, .ref (a_t 4), .ref (a_t 5), .ref (a_t 6), .ref (a_t 7), .ref (a_t 8), .ref (a_t 9), .int t_taped, .int 0, .int t_faultPlace, .int 0, .int t_begin, .int t_token, .int t_value, .int 0, .ref (a_t 18), .ref (a_t 19), .ref (a_t 20), .int t_wide, .int t_lost, .ref (a_t 23), .long t_det, .ref (a_t 25), .int t_mask, .int t_mode, .int t_wanted, .int t_orders, .int t_foundAt, .long t_foundBy, .ref (a_t 32), .ref (a_t 33), .int t_unlikes, .ref (a_t 35), .ref (a_t 36)])), ((a_t 1), .inl (g.2.2.1 0, 27, .inl t_mem)), ((a_t 2), .inl (g.2.2.1 0, 27, .inl t_was)), ((a_t 9), .inl (g.2.2.1 0, 600, .inl t_tape)), ((a_t 18), .inl (g.2.2.1 0, 3, .inl t_nameAt)), ((a_t 19), .inl (g.2.2.1 0, 3, .inl t_nameLong))]) cx hG hP hD hS 0 rfl rfl uX8 tyX8 tyX8_ok nmX8 10 (by decide) lf_X8_112 rfl (by decide +kernel) rfl rfl (Nat.le_of_ble_eq_true rfl) rfl dX8_plate_45 (fun H locs hP hD hS => ?_)
    have hG := hGk hS
    refine lv_aload_n hx hb dX8_plate_48 rfl (lv_at hl 0 rfl) ?_
    refine lv_iconst (v := -1) hx hb dX8_plate_49 (by decide) ?_
    refine xw_put (C := RX8) (T := TX8) (N := 36) (ty := .int) (v := .int (-1)) (ws' := [((a_t 0), .inr (7, [.ref (a_t 1), .ref (a_t 2), .int t_acted, .ref (a_t 4), .ref (a_t 5), .ref (a_t 6), .ref (a_t 7), .ref (a_t 8), .ref (a_t 9), .int t_taped, .int 0, .int (-1), .int 0, .int t_begin, .int t_token, .int t_value, .int 0, .ref (a_t 18), .ref (a_t 19), .ref (a_t 20), .int t_wide, .int t_lost, .ref (a_t 23), .long t_det, .ref (a_t 25), .int t_mask, .int t_mode, .int t_wanted, .int t_orders, .int t_foundAt, .long t_foundBy, .ref (a_t 32), .ref (a_t 33), .int t_unlikes, .ref (a_t 35), .ref (a_t 36)])), ((a_t 1), .inl (g.2.2.1 0, 27, .inl t_mem)), ((a_t 2), .inl (g.2.2.1 0, 27, .inl t_was)), ((a_t 9), .inl (g.2.2.1 0, 600, .inl t_tape)), ((a_t 18), .inl (g.2.2.1 0, 3, .inl t_nameAt)), ((a_t 19), .inl (g.2.2.1 0, 3, .inl t_nameLong))]) cx hG hP hD hS 0 rfl rfl uX8 tyX8 tyX8_ok nmX8 11 (by decide) lf_X8_47 rfl (by decide +kernel) rfl rfl (Nat.le_of_ble_eq_true rfl) rfl dX8_plate_50 (fun H locs hP hD hS => ?_)
    have hG := hGk hS
    refine lv_aload_n hx hb dX8_plate_53 rfl (lv_at hl 0 rfl) ?_
    obtain ⟨w6, w7, w8, w9, hr5, h⟩ := ob4_out h
    refine rw_v (WN := fun u10 => [((a_t 1), .inl (g.2.2.1 0, 27, .inl t_mem)), ((a_t 2), .inl (g.2.2.1 0, 27, .inl t_was)), ((a_t 18), .inl (g.2.2.1 0, 3, .inl t_nameAt)), ((a_t 19), .inl (g.2.2.1 0, 3, .inl t_nameLong)), ((a_t 0), .inr (7, [.ref (a_t 1), .ref (a_t 2), .int t_acted, .ref (a_t 4), .ref (a_t 5), .ref (a_t 6), .ref (a_t 7), .ref (a_t 8), .ref (a_t 9), .int t_taped, .int 0, .int (-1), .int w6, .int w7, .int w8, .int w9, .int 0, .ref (a_t 18), .ref (a_t 19), .ref (a_t 20), .int t_wide, .int t_lost, .ref (a_t 23), .long t_det, .ref (a_t 25), .int t_mask, .int t_mode, .int t_wanted, .int t_orders, .int t_foundAt, .long t_foundBy, .ref (a_t 32), .ref (a_t 33), .int t_unlikes, .ref (a_t 35), .ref (a_t 36)])), ((a_t 9), .inl (g.2.2.1 0, 600, .inl t_tape))]) (wr := [((a_t 1), .inl (g.2.2.1 0, 27, .inl t_mem)), ((a_t 2), .inl (g.2.2.1 0, 27, .inl t_was)), ((a_t 18), .inl (g.2.2.1 0, 3, .inl t_nameAt)), ((a_t 19), .inl (g.2.2.1 0, 3, .inl t_nameLong))]) (runV (As := []) (rest := []) cx hl.1 (ctX8_next l g H.size a_t t_acted t_taped (0) (-1) (0) t_begin t_token t_value (0) t_wide t_lost t_det t_mask t_mode t_wanted t_orders t_foundAt t_foundBy t_unlikes t_tape w6 w7 w8 w9 hr5) kmX8_next kvX8_next lm_X8_129 ⟨rfl, rfl⟩ ⟨Nat.le_of_ble_eq_true rfl, Nat.le_of_ble_eq_true rfl⟩ (rwV (q0 := 0) (ci := 7) hG (hP.sub [0, 3] rfl) (hD.sub [0, 3] (by decide) rfl) hAb hb0 hS hP rfl rfl) rfl rfl (Nat.le_of_ble_eq_true rfl) dX8_plate_54 ⟨Nat.le_of_ble_eq_true rfl, Nat.le_of_ble_eq_true rfl⟩) hP hD hS hA [0, 3] [1, 2, 4, 5] rfl rfl (by decide) (by decide) (fun _ => rfl) (fun u10 H locs hP hD hS => ?_)
    have hG := hGk hS
    refine lv_aload_n hx hb dX8_plate_57 rfl (lv_at hl 0 rfl) ?_
    obtain ⟨w12, w13, w14, w15, w16, w17, w18, w19, w20, w21, hr11, h⟩ := ob10_out h
    refine rw_v (WN := fun u22 => [((a_t 2), .inl (g.2.2.1 0, 27, .inl t_was)), ((a_t 0), .inr (7, [.ref (a_t 1), .ref (a_t 2), .int t_acted, .ref (a_t 4), .ref (a_t 5), .ref (a_t 6), .ref (a_t 7), .ref (a_t 8), .ref (a_t 9), .int t_taped, .int w13, .int w14, .int w15, .int w16, .int w17, .int w18, .int w19, .ref (a_t 18), .ref (a_t 19), .ref (a_t 20), .int t_wide, .int t_lost, .ref (a_t 23), .long t_det, .ref (a_t 25), .int t_mask, .int t_mode, .int t_wanted, .int t_orders, .int t_foundAt, .long t_foundBy, .ref (a_t 32), .ref (a_t 33), .int t_unlikes, .ref (a_t 35), .ref (a_t 36)])), ((a_t 1), .inl (g.2.2.1 0, 27, .inl w12)), ((a_t 9), .inl (g.2.2.1 0, 600, .inl t_tape)), ((a_t 18), .inl (g.2.2.1 0, 3, .inl w20)), ((a_t 19), .inl (g.2.2.1 0, 3, .inl w21))]) (wr := [((a_t 2), .inl (g.2.2.1 0, 27, .inl t_was))]) (runV (As := []) (rest := []) cx hl.1 (ctX8_readsAll l g H.size a_t t_acted t_taped (0) (-1) w6 w7 w8 w9 (0) t_wide t_lost t_det t_mask t_mode t_wanted t_orders t_foundAt t_foundBy t_unlikes t_mem t_tape t_nameAt t_nameLong w12 w13 w14 w15 w16 w17 w18 w19 w20 w21 hr11) kmX8_readsAll kvX8_readsAll lm_X8_185 ⟨rfl, rfl⟩ ⟨Nat.le_of_ble_eq_true rfl, Nat.le_of_ble_eq_true rfl⟩ (rwV (q0 := 4) (ci := 7) hG (hP.sub [4, 0, 5, 2, 3] rfl) (hD.sub [4, 0, 5, 2, 3] (by decide) rfl) hAb hb0 hS hP rfl rfl) rfl rfl (Nat.le_of_ble_eq_true rfl) dX8_plate_58 ⟨Nat.le_of_ble_eq_true rfl, Nat.le_of_ble_eq_true rfl⟩) hP hD hS hA [4, 0, 5, 2, 3] [1] rfl rfl (by decide) (by decide) (fun _ => rfl) (fun u22 H locs hP hD hS => ?_)
    have hG := hGk hS
    refine lv_aload_n hx hb dX8_plate_61 rfl (lv_at hl 0 rfl) ?_
    refine lv_iconst (v := 0) hx hb dX8_plate_62 (by decide) ?_
    refine xw_put (C := RX8) (T := TX8) (N := 36) (ty := .int) (v := .int (0)) (ws' := [((a_t 2), .inl (g.2.2.1 0, 27, .inl t_was)), ((a_t 0), .inr (7, [.ref (a_t 1), .ref (a_t 2), .int t_acted, .ref (a_t 4), .ref (a_t 5), .ref (a_t 6), .ref (a_t 7), .ref (a_t 8), .ref (a_t 9), .int 0, .int w13, .int w14, .int w15, .int w16, .int w17, .int w18, .int w19, .ref (a_t 18), .ref (a_t 19), .ref (a_t 20), .int t_wide, .int t_lost, .ref (a_t 23), .long t_det, .ref (a_t 25), .int t_mask, .int t_mode, .int t_wanted, .int t_orders, .int t_foundAt, .long t_foundBy, .ref (a_t 32), .ref (a_t 33), .int t_unlikes, .ref (a_t 35), .ref (a_t 36)])), ((a_t 1), .inl (g.2.2.1 0, 27, .inl w12)), ((a_t 9), .inl (g.2.2.1 0, 600, .inl t_tape)), ((a_t 18), .inl (g.2.2.1 0, 3, .inl w20)), ((a_t 19), .inl (g.2.2.1 0, 3, .inl w21))]) cx hG hP hD hS 1 rfl rfl uX8 tyX8 tyX8_ok nmX8 9 (by decide) lf_X8_80 rfl (by decide +kernel) rfl rfl (Nat.le_of_ble_eq_true rfl) rfl dX8_plate_63 (fun H locs hP hD hS => ?_)
    have hG := hGk hS
    refine lv_aload_n hx hb dX8_plate_66 rfl (lv_at hl 0 rfl) ?_
    refine xa_get (C := RX8) (T := TX8) (N := 36) cx hG hP 1 rfl rfl uX8 16 (by decide) lf_X8_108 rfl dX8_plate_67 ?_
    refine lv_if_eq (tgt := 102) hx hb dX8_plate_70 (by decide) (fun c23 => ?_) (fun c23 => ?_)
    · have h := itp c23 h
      refine lv_aload_n hx hb dX8_plate_102 rfl (lv_at hl 0 rfl) ?_
      refine lv_iconst (v := 0) hx hb dX8_plate_103 (by decide) ?_
      refine xw_put (C := RX8) (T := TX8) (N := 36) (ty := .int) (v := .int (0)) (ws' := [((a_t 2), .inl (g.2.2.1 0, 27, .inl t_was)), ((a_t 0), .inr (7, [.ref (a_t 1), .ref (a_t 2), .int 0, .ref (a_t 4), .ref (a_t 5), .ref (a_t 6), .ref (a_t 7), .ref (a_t 8), .ref (a_t 9), .int 0, .int w13, .int w14, .int w15, .int w16, .int w17, .int w18, .int w19, .ref (a_t 18), .ref (a_t 19), .ref (a_t 20), .int t_wide, .int t_lost, .ref (a_t 23), .long t_det, .ref (a_t 25), .int t_mask, .int t_mode, .int t_wanted, .int t_orders, .int t_foundAt, .long t_foundBy, .ref (a_t 32), .ref (a_t 33), .int t_unlikes, .ref (a_t 35), .ref (a_t 36)])), ((a_t 1), .inl (g.2.2.1 0, 27, .inl w12)), ((a_t 9), .inl (g.2.2.1 0, 600, .inl t_tape)), ((a_t 18), .inl (g.2.2.1 0, 3, .inl w20)), ((a_t 19), .inl (g.2.2.1 0, 3, .inl w21))]) cx hG hP hD hS 1 rfl rfl uX8 tyX8 tyX8_ok nmX8 2 (by decide) lf_X8_188 rfl (by decide +kernel) rfl rfl (Nat.le_of_ble_eq_true rfl) rfl dX8_plate_104 (fun H locs hP hD hS => ?_)
      have hG := hGk hS
      refine lv_aload_n hx hb dX8_plate_107 rfl (lv_at hl 0 rfl) ?_
      refine xa_get (C := RX8) (T := TX8) (N := 36) cx hG hP 1 rfl rfl uX8 0 (by decide) lf_X8_21 rfl dX8_plate_108 ?_
      refine lv_iconst (v := 3) hx hb dX8_plate_111 (by decide) ?_
      refine xa_iald (k := 3) cx hG hP 2 rfl (show ¬ ((3 : Int32) < 0 ∨ 27 ≤ (3 : Int32).toNatClampNeg) by decide) (by decide) dX8_plate_112 ?_
      exact hrt (fun _ => 0) _ _ ((w12 3)) w12 t_was (0) (0) w13 w14 w15 w16 w17 w18 w19 w20 w21 _ _ dX8_plate_113 h (hP.sub [1, 2, 0, 3, 4, 5] rfl) (hD.sub [1, 2, 0, 3, 4, 5] (by decide) rfl) hS
    · have h := itn c23 h
      refine lv_iconst (v := 0) hx hb dX8_plate_73 (by decide) ?_
      refine lv_istore_n (lv' := [(1, .int (0)), (0, .ref ((a_t 0)))]) hx hb dX8_plate_74 rfl hl (by decide) rfl (fun ls hl => ?_)
      exact w75 FU w12 t_was t_acted 0 w13 w14 w15 w16 w17 w18 w19 w20 w21 0 _ _ (hP.sub [1, 2, 0, 3, 4, 5] rfl) (hD.sub [1, 2, 0, 3, 4, 5] (by decide) rfl) hS _ (lv_sub hl [1, 0] rfl) h
  have w2 : ∀ (n : Nat) (t_mem : Nat → Int32) (t_was : Nat → Int32) (t_acted : Int32) (t_taped : Int32) (t_faultKind : Int32) (t_faultPlace : Int32) (t_at : Int32) (t_begin : Int32) (t_token : Int32) (t_value : Int32) (t_bad : Int32) (t_nameAt : Nat → Int32) (t_nameLong : Nat → Int32) (v1 : Int32) (H : Heap) (locs : List Loc), va_P g.2.1 vwCl [((a_t 0), .inr (7, [.ref (a_t 1), .ref (a_t 2), .int t_acted, .ref (a_t 4), .ref (a_t 5), .ref (a_t 6), .ref (a_t 7), .ref (a_t 8), .ref (a_t 9), .int t_taped, .int t_faultKind, .int t_faultPlace, .int t_at, .int t_begin, .int t_token, .int t_value, .int t_bad, .ref (a_t 18), .ref (a_t 19), .ref (a_t 20), .int t_wide, .int t_lost, .ref (a_t 23), .long t_det, .ref (a_t 25), .int t_mask, .int t_mode, .int t_wanted, .int t_orders, .int t_foundAt, .long t_foundBy, .ref (a_t 32), .ref (a_t 33), .int t_unlikes, .ref (a_t 35), .ref (a_t 36)])), ((a_t 1), .inl (g.2.2.1 0, 27, .inl t_mem)), ((a_t 2), .inl (g.2.2.1 0, 27, .inl t_was)), ((a_t 9), .inl (g.2.2.1 0, 600, .inl t_tape)), ((a_t 18), .inl (g.2.2.1 0, 3, .inl t_nameAt)), ((a_t 19), .inl (g.2.2.1 0, 3, .inl t_nameLong))] H → va_D A [((a_t 0), .inr (7, [.ref (a_t 1), .ref (a_t 2), .int t_acted, .ref (a_t 4), .ref (a_t 5), .ref (a_t 6), .ref (a_t 7), .ref (a_t 8), .ref (a_t 9), .int t_taped, .int t_faultKind, .int t_faultPlace, .int t_at, .int t_begin, .int t_token, .int t_value, .int t_bad, .ref (a_t 18), .ref (a_t 19), .ref (a_t 20), .int t_wide, .int t_lost, .ref (a_t 23), .long t_det, .ref (a_t 25), .int t_mask, .int t_mode, .int t_wanted, .int t_orders, .int t_foundAt, .long t_foundBy, .ref (a_t 32), .ref (a_t 33), .int t_unlikes, .ref (a_t 35), .ref (a_t 36)])), ((a_t 1), .inl (g.2.2.1 0, 27, .inl t_mem)), ((a_t 2), .inl (g.2.2.1 0, 27, .inl t_was)), ((a_t 9), .inl (g.2.2.1 0, 600, .inl t_tape)), ((a_t 18), .inl (g.2.2.1 0, 3, .inl t_nameAt)), ((a_t 19), .inl (g.2.2.1 0, 3, .inl t_nameLong))] → va_S A s.heap H locs → ∀ (ls : Array Slot), lv_has ls 2 [(0, .ref ((a_t 0))), (1, .int v1)] → fX8_plate_2  n t_mem t_was t_acted t_tape t_taped t_faultKind t_faultPlace t_at t_begin t_token t_value t_bad t_nameAt t_nameLong v1 = some (o, o_t_mem, o_t_was, o_t_acted, o_t_taped, o_t_faultKind, o_t_faultPlace, o_t_at, o_t_begin, o_t_token, o_t_value, o_t_bad, o_t_nameAt, o_t_nameLong) → W p l e ⟨12, 0, 0, 245⟩ s m args below meth c H locs 0 0 Q (F0 m 2 ls []) := by
    intro n
    induction n with
    | zero => intro t_mem t_was t_acted t_taped t_faultKind t_faultPlace t_at t_begin t_token t_value t_bad t_nameAt t_nameLong v1 H locs hP hD hS ls hl h; cases (fX8_plate_2_z  t_mem t_was t_acted t_tape t_taped t_faultKind t_faultPlace t_at t_begin t_token t_value t_bad t_nameAt t_nameLong v1).symm.trans h
    | succ n ih =>
    intro t_mem t_was t_acted t_taped t_faultKind t_faultPlace t_at t_begin t_token t_value t_bad t_nameAt t_nameLong v1 H locs hP hD hS ls hl h
    have h := (fX8_plate_2_s  n t_mem t_was t_acted t_tape t_taped t_faultKind t_faultPlace t_at t_begin t_token t_value t_bad t_nameAt t_nameLong v1).symm.trans h
    have hG := hGk hS
    refine lv_iload_n hx hb dX8_plate_2 rfl (lv_at hl 1 rfl) ?_
    refine lv_bipush (v := 27) hx hb dX8_plate_3 (by decide) ?_
    refine lv_icmp_ge (tgt := 33) hx hb dX8_plate_5 (by decide) (fun c1 => ?_) (fun c1 => ?_)
    · have h := itp c1 h
      exact w33 t_mem t_was t_acted t_taped t_faultKind t_faultPlace t_at t_begin t_token t_value t_bad t_nameAt t_nameLong _ _ hP hD hS _ (lv_sub hl [0] rfl) h
    · have h := itn c1 h
      refine lv_aload_n hx hb dX8_plate_8 rfl (lv_at hl 0 rfl) ?_
      refine xa_get (C := RX8) (T := TX8) (N := 36) cx hG hP 0 rfl rfl uX8 1 (by decide) lf_X8_25 rfl dX8_plate_9 ?_
      refine lv_iload_n hx hb dX8_plate_12 rfl (lv_at hl 1 rfl) ?_
      refine lv_aload_n hx hb dX8_plate_13 rfl (lv_at hl 0 rfl) ?_
      refine xa_get (C := RX8) (T := TX8) (N := 36) cx hG hP 0 rfl rfl uX8 0 (by decide) lf_X8_21 rfl dX8_plate_14 ?_
      refine lv_iload_n hx hb dX8_plate_17 rfl (lv_at hl 1 rfl) ?_
      obtain ⟨hi2, h⟩ := chk_out h
      refine xa_iald cx hG hP 1 rfl hi2 rfl dX8_plate_18 ?_
      obtain ⟨hi3, h⟩ := chk_out h
      refine xw_iast (ws' := [((a_t 0), .inr (7, [.ref (a_t 1), .ref (a_t 2), .int t_acted, .ref (a_t 4), .ref (a_t 5), .ref (a_t 6), .ref (a_t 7), .ref (a_t 8), .ref (a_t 9), .int t_taped, .int t_faultKind, .int t_faultPlace, .int t_at, .int t_begin, .int t_token, .int t_value, .int t_bad, .ref (a_t 18), .ref (a_t 19), .ref (a_t 20), .int t_wide, .int t_lost, .ref (a_t 23), .long t_det, .ref (a_t 25), .int t_mask, .int t_mode, .int t_wanted, .int t_orders, .int t_foundAt, .long t_foundBy, .ref (a_t 32), .ref (a_t 33), .int t_unlikes, .ref (a_t 35), .ref (a_t 36)])), ((a_t 1), .inl (g.2.2.1 0, 27, .inl t_mem)), ((a_t 2), .inl (g.2.2.1 0, 27, .inl (upd t_was v1.toNatClampNeg (t_mem v1.toNatClampNeg)))), ((a_t 9), .inl (g.2.2.1 0, 600, .inl t_tape)), ((a_t 18), .inl (g.2.2.1 0, 3, .inl t_nameAt)), ((a_t 19), .inl (g.2.2.1 0, 3, .inl t_nameLong))]) (k := v1.toNatClampNeg) cx hG hP hD hS 2 rfl hi3 rfl rfl dX8_plate_19 (fun H locs hP hD hS => ?_)
      have hG := hGk hS
      refine lv_aload_n hx hb dX8_plate_20 rfl (lv_at hl 0 rfl) ?_
      refine xa_get (C := RX8) (T := TX8) (N := 36) cx hG hP 0 rfl rfl uX8 0 (by decide) lf_X8_21 rfl dX8_plate_21 ?_
      refine lv_iload_n hx hb dX8_plate_24 rfl (lv_at hl 1 rfl) ?_
      refine lv_iconst (v := 0) hx hb dX8_plate_25 (by decide) ?_
      obtain ⟨hi4, h⟩ := chk_out h
      refine xw_iast (ws' := [((a_t 0), .inr (7, [.ref (a_t 1), .ref (a_t 2), .int t_acted, .ref (a_t 4), .ref (a_t 5), .ref (a_t 6), .ref (a_t 7), .ref (a_t 8), .ref (a_t 9), .int t_taped, .int t_faultKind, .int t_faultPlace, .int t_at, .int t_begin, .int t_token, .int t_value, .int t_bad, .ref (a_t 18), .ref (a_t 19), .ref (a_t 20), .int t_wide, .int t_lost, .ref (a_t 23), .long t_det, .ref (a_t 25), .int t_mask, .int t_mode, .int t_wanted, .int t_orders, .int t_foundAt, .long t_foundBy, .ref (a_t 32), .ref (a_t 33), .int t_unlikes, .ref (a_t 35), .ref (a_t 36)])), ((a_t 1), .inl (g.2.2.1 0, 27, .inl (upd t_mem v1.toNatClampNeg 0))), ((a_t 2), .inl (g.2.2.1 0, 27, .inl (upd t_was v1.toNatClampNeg (t_mem v1.toNatClampNeg)))), ((a_t 9), .inl (g.2.2.1 0, 600, .inl t_tape)), ((a_t 18), .inl (g.2.2.1 0, 3, .inl t_nameAt)), ((a_t 19), .inl (g.2.2.1 0, 3, .inl t_nameLong))]) (k := v1.toNatClampNeg) cx hG hP hD hS 1 rfl hi4 rfl rfl dX8_plate_26 (fun H locs hP hD hS => ?_)
      have hG := hGk hS
      refine lv_iinc (v := v1 + 1) (lv' := [(1, .int (v1 + 1)), (0, .ref ((a_t 0)))]) hx hb dX8_plate_27 hl (k := 1) rfl rfl (by decide) rfl (fun ls hl => ?_)
      refine lv_goto (tgt := 2) hx hb dX8_plate_30 (by decide) ?_
      exact ih (upd t_mem v1.toNatClampNeg 0) (upd t_was v1.toNatClampNeg (t_mem v1.toNatClampNeg)) t_acted t_taped t_faultKind t_faultPlace t_at t_begin t_token t_value t_bad t_nameAt t_nameLong (v1 + 1) _ _ hP hD hS _ (lv_sub hl [1, 0] rfl) h
  unfold fX8_plate at h
  refine lv_iconst (v := 0) hx hb dX8_plate_0 (by decide) ?_
  refine lv_istore_n (lv' := [(1, .int (0)), (0, .ref ((a_t 0)))]) hx hb dX8_plate_1 rfl hl (by decide) rfl (fun ls hl => ?_)
  exact w2 FU t_mem t_was t_acted t_taped t_faultKind t_faultPlace t_at t_begin t_token t_value t_bad t_nameAt t_nameLong 0 _ _ hP hD hS _ (lv_sub hl [1, 0] rfl) h
-- X8_fault
theorem dX8_fault_0 : decode cX8_fault 0 = .ok (.iload_n 1, 1) := by decide +kernel
theorem dX8_fault_1 : decode cX8_fault 1 = .ok (.ifCond .ne 10, 3) := by decide +kernel
theorem dX8_fault_4 : decode cX8_fault 4 = .ok (.aload_n 0, 1) := by decide +kernel
theorem dX8_fault_5 : decode cX8_fault 5 = .ok (.getfield 112, 3) := by decide +kernel
theorem dX8_fault_8 : decode cX8_fault 8 = .ok (.goto 16, 3) := by decide +kernel
theorem dX8_fault_11 : decode cX8_fault 11 = .ok (.iload_n 1, 1) := by decide +kernel
theorem dX8_fault_12 : decode cX8_fault 12 = .ok (.iconst 1, 1) := by decide +kernel
theorem dX8_fault_13 : decode cX8_fault 13 = .ok (.if_icmp .ne 10, 3) := by decide +kernel
theorem dX8_fault_16 : decode cX8_fault 16 = .ok (.aload_n 0, 1) := by decide +kernel
theorem dX8_fault_17 : decode cX8_fault 17 = .ok (.getfield 47, 3) := by decide +kernel
theorem dX8_fault_20 : decode cX8_fault 20 = .ok (.goto 4, 3) := by decide +kernel
theorem dX8_fault_23 : decode cX8_fault 23 = .ok (.iconst (-1), 1) := by decide +kernel
theorem dX8_fault_24 : decode cX8_fault 24 = .ok (.ireturn, 1) := by decide +kernel
noncomputable def fX8_fault  (t_faultKind : Int32) (t_faultPlace : Int32) (v1 : Int32) : Int32 := (if v1 = 0 then t_faultKind else (if v1 = 1 then t_faultPlace else (-1)))
set_option maxHeartbeats 4000000 in
set_option maxRecDepth 100000 in
theorem ctX8_fault (l : Launch) (g : GT) (a_t : Nat → Nat) (t_acted : Int32) (t_taped : Int32) (t_faultKind : Int32) (t_faultPlace : Int32) (t_at : Int32) (t_begin : Int32) (t_token : Int32) (t_value : Int32) (t_bad : Int32) (t_wide : Int32) (t_lost : Int32) (t_det : Int64) (t_mask : Int32) (t_mode : Int32) (t_wanted : Int32) (t_orders : Int32) (t_foundAt : Int32) (t_foundBy : Int64) (t_unlikes : Int32) (v1 : Int32) (o : Int32) (h : fX8_fault t_faultKind t_faultPlace v1 = o) : Met l yX8_fault (Cond.code yX8_fault cX8_fault 2 (some .int) :: Tw) ⟨0, 0, 0, 0⟩ (va_Pc [.ref ((a_t 0)), .int v1] (roB g [((a_t 0), .inr (7, [.ref (a_t 1), .ref (a_t 2), .int t_acted, .ref (a_t 4), .ref (a_t 5), .ref (a_t 6), .ref (a_t 7), .ref (a_t 8), .ref (a_t 9), .int t_taped, .int t_faultKind, .int t_faultPlace, .int t_at, .int t_begin, .int t_token, .int t_value, .int t_bad, .ref (a_t 18), .ref (a_t 19), .ref (a_t 20), .int t_wide, .int t_lost, .ref (a_t 23), .long t_det, .ref (a_t 25), .int t_mask, .int t_mode, .int t_wanted, .int t_orders, .int t_foundAt, .long t_foundBy, .ref (a_t 32), .ref (a_t 33), .int t_unlikes, .ref (a_t 35), .ref (a_t 36)]))])) (vp_Si (fun x => x = o)) 0 0 (fun _ => False) := by
  refine ro_meti (by decide) (Nat.le_of_ble_eq_true rfl) (lv0 := [(0, .ref ((a_t 0))), (1, .int v1)]) rfl ?_
  intro p e s m args below meth c ls Q cx hret hG hP hl
  have hx := cx.1
  have hb := cx.2.1
  have hG0 := hG
  unfold fX8_fault at h
  refine lv_iload_n hx hb dX8_fault_0 rfl (lv_at hl 1 rfl) ?_
  refine lv_if_ne (tgt := 11) hx hb dX8_fault_1 (by decide) (fun c1 => ?_) (fun c1 => ?_)
  · have h := itn c1 h
    refine lv_iload_n hx hb dX8_fault_11 rfl (lv_at hl 1 rfl) ?_
    refine lv_iconst (v := 1) hx hb dX8_fault_12 (by decide) ?_
    refine lv_icmp_ne (tgt := 23) hx hb dX8_fault_13 (by decide) (fun c2 => ?_) (fun c2 => ?_)
    · have h := itn c2 h
      refine lv_iconst (v := -1) hx hb dX8_fault_23 (by decide) ?_
      exact hret _ _ _ dX8_fault_24 h
    · have h := itp c2 h
      refine lv_aload_n hx hb dX8_fault_16 rfl (lv_at hl 0 rfl) ?_
      refine xa_get (C := RX8) (T := TX8) (N := 36) cx hG hP 0 rfl rfl uX8 11 (by decide) lf_X8_47 rfl dX8_fault_17 ?_
      refine lv_goto (tgt := 24) hx hb dX8_fault_20 (by decide) ?_
      exact hret _ _ _ dX8_fault_24 h
  · have h := itp c1 h
    refine lv_aload_n hx hb dX8_fault_4 rfl (lv_at hl 0 rfl) ?_
    refine xa_get (C := RX8) (T := TX8) (N := 36) cx hG hP 0 rfl rfl uX8 10 (by decide) lf_X8_112 rfl dX8_fault_5 ?_
    refine lv_goto (tgt := 24) hx hb dX8_fault_8 (by decide) ?_
    exact hret _ _ _ dX8_fault_24 h
-- X8_is
theorem dX8_is_0 : decode cX8_is 0 = .ok (.aload_n 0, 1) := by decide +kernel
theorem dX8_is_1 : decode cX8_is 1 = .ok (.getfield 21, 3) := by decide +kernel
theorem dX8_is_4 : decode cX8_is 4 = .ok (.iconst 3, 1) := by decide +kernel
theorem dX8_is_5 : decode cX8_is 5 = .ok (.iaload, 1) := by decide +kernel
theorem dX8_is_6 : decode cX8_is 6 = .ok (.ifCond .le 7, 3) := by decide +kernel
theorem dX8_is_9 : decode cX8_is 9 = .ok (.iconst 1, 1) := by decide +kernel
theorem dX8_is_10 : decode cX8_is 10 = .ok (.goto 4, 3) := by decide +kernel
theorem dX8_is_13 : decode cX8_is 13 = .ok (.iconst 0, 1) := by decide +kernel
theorem dX8_is_14 : decode cX8_is 14 = .ok (.ireturn, 1) := by decide +kernel
noncomputable def fX8_is  (t_mem : Nat → Int32) : Option (Int32) := (if (t_mem 3) ≤ 0 then some (0) else some (1))
set_option maxHeartbeats 4000000 in
set_option maxRecDepth 100000 in
theorem ctX8_is (l : Launch) (g : GT) (a_t : Nat → Nat) (t_acted : Int32) (t_taped : Int32) (t_faultKind : Int32) (t_faultPlace : Int32) (t_at : Int32) (t_begin : Int32) (t_token : Int32) (t_value : Int32) (t_bad : Int32) (t_wide : Int32) (t_lost : Int32) (t_det : Int64) (t_mask : Int32) (t_mode : Int32) (t_wanted : Int32) (t_orders : Int32) (t_foundAt : Int32) (t_foundBy : Int64) (t_unlikes : Int32) (t_mem : Nat → Int32) (o : Int32) (h : fX8_is t_mem = some o) : Met l yX8_is (Cond.code yX8_is cX8_is 1 (some .boolean) :: Tw) ⟨0, 0, 0, 0⟩ (va_Pc [.ref ((a_t 0))] (roB g [((a_t 0), .inr (7, [.ref (a_t 1), .ref (a_t 2), .int t_acted, .ref (a_t 4), .ref (a_t 5), .ref (a_t 6), .ref (a_t 7), .ref (a_t 8), .ref (a_t 9), .int t_taped, .int t_faultKind, .int t_faultPlace, .int t_at, .int t_begin, .int t_token, .int t_value, .int t_bad, .ref (a_t 18), .ref (a_t 19), .ref (a_t 20), .int t_wide, .int t_lost, .ref (a_t 23), .long t_det, .ref (a_t 25), .int t_mask, .int t_mode, .int t_wanted, .int t_orders, .int t_foundAt, .long t_foundBy, .ref (a_t 32), .ref (a_t 33), .int t_unlikes, .ref (a_t 35), .ref (a_t 36)])), ((a_t 1), .inl (g.2.2.1 0, 27, .inl t_mem))])) (vp_Si (fun x => x = o ∧ (x = 0 ∨ x = 1))) 0 0 (fun _ => False) := by
  refine ro_metz (by decide) (Nat.le_of_ble_eq_true rfl) (lv0 := [(0, .ref ((a_t 0)))]) rfl ?_
  intro p e s m args below meth c ls Q cx hret hG hP hl
  have hx := cx.1
  have hb := cx.2.1
  have hG0 := hG
  unfold fX8_is at h
  refine lv_aload_n hx hb dX8_is_0 rfl (lv_at hl 0 rfl) ?_
  refine xa_get (C := RX8) (T := TX8) (N := 36) cx hG hP 0 rfl rfl uX8 0 (by decide) lf_X8_21 rfl dX8_is_1 ?_
  refine lv_iconst (v := 3) hx hb dX8_is_4 (by decide) ?_
  refine xa_iald (k := 3) cx hG hP 1 rfl (show ¬ ((3 : Int32) < 0 ∨ 27 ≤ (3 : Int32).toNatClampNeg) by decide) (by decide) dX8_is_5 ?_
  refine lv_if_le (tgt := 13) hx hb dX8_is_6 (by decide) (fun c1 => ?_) (fun c1 => ?_)
  · have h := itp c1 h
    refine lv_iconst (v := 0) hx hb dX8_is_13 (by decide) ?_
    exact hret _ _ _ dX8_is_14 (by decide) (Option.some.inj h)
  · have h := itn c1 h
    refine lv_iconst (v := 1) hx hb dX8_is_9 (by decide) ?_
    refine lv_goto (tgt := 14) hx hb dX8_is_10 (by decide) ?_
    exact hret _ _ _ dX8_is_14 (by decide) (Option.some.inj h)
-- X8_isKind
theorem dX8_isKind_0 : decode cX8_isKind 0 = .ok (.iload_n 1, 1) := by decide +kernel
theorem dX8_isKind_1 : decode cX8_isKind 1 = .ok (.i2l, 1) := by decide +kernel
theorem dX8_isKind_2 : decode cX8_isKind 2 = .ok (.lconst 0, 1) := by decide +kernel
theorem dX8_isKind_3 : decode cX8_isKind 3 = .ok (.aload_n 0, 1) := by decide +kernel
theorem dX8_isKind_4 : decode cX8_isKind 4 = .ok (.getfield 21, 3) := by decide +kernel
theorem dX8_isKind_7 : decode cX8_isKind 7 = .ok (.iconst 1, 1) := by decide +kernel
theorem dX8_isKind_8 : decode cX8_isKind 8 = .ok (.iaload, 1) := by decide +kernel
theorem dX8_isKind_9 : decode cX8_isKind 9 = .ok (.iconst 1, 1) := by decide +kernel
theorem dX8_isKind_10 : decode cX8_isKind 10 = .ok (.isub, 1) := by decide +kernel
theorem dX8_isKind_11 : decode cX8_isKind 11 = .ok (.i2l, 1) := by decide +kernel
theorem dX8_isKind_12 : decode cX8_isKind 12 = .ok (.invokestatic 83, 3) := by decide +kernel
theorem dX8_isKind_15 : decode cX8_isKind 15 = .ok (.ireturn, 1) := by decide +kernel
noncomputable def fX8_isKind  (t_mem : Nat → Int32) (v1 : Int32) : Option (Int32) := some (fX8_in v1.toInt64 0 (((t_mem 1) - 1).toInt64))
set_option maxHeartbeats 4000000 in
set_option maxRecDepth 100000 in
theorem ctX8_isKind (l : Launch) (g : GT) (a_t : Nat → Nat) (t_acted : Int32) (t_taped : Int32) (t_faultKind : Int32) (t_faultPlace : Int32) (t_at : Int32) (t_begin : Int32) (t_token : Int32) (t_value : Int32) (t_bad : Int32) (t_wide : Int32) (t_lost : Int32) (t_det : Int64) (t_mask : Int32) (t_mode : Int32) (t_wanted : Int32) (t_orders : Int32) (t_foundAt : Int32) (t_foundBy : Int64) (t_unlikes : Int32) (t_mem : Nat → Int32) (v1 : Int32) (o : Int32) (h : fX8_isKind t_mem v1 = some o) : Met l yX8_isKind (Cond.code yX8_isKind cX8_isKind 2 (some .boolean) :: Tw) ⟨1, 0, 0, 25⟩ (va_Pc [.ref ((a_t 0)), .int v1] (roB g [((a_t 0), .inr (7, [.ref (a_t 1), .ref (a_t 2), .int t_acted, .ref (a_t 4), .ref (a_t 5), .ref (a_t 6), .ref (a_t 7), .ref (a_t 8), .ref (a_t 9), .int t_taped, .int t_faultKind, .int t_faultPlace, .int t_at, .int t_begin, .int t_token, .int t_value, .int t_bad, .ref (a_t 18), .ref (a_t 19), .ref (a_t 20), .int t_wide, .int t_lost, .ref (a_t 23), .long t_det, .ref (a_t 25), .int t_mask, .int t_mode, .int t_wanted, .int t_orders, .int t_foundAt, .long t_foundBy, .ref (a_t 32), .ref (a_t 33), .int t_unlikes, .ref (a_t 35), .ref (a_t 36)])), ((a_t 1), .inl (g.2.2.1 0, 27, .inl t_mem))])) (vp_Si (fun x => x = o ∧ (x = 0 ∨ x = 1))) 0 0 (fun _ => False) := by
  refine ro_metz (by decide) (Nat.le_of_ble_eq_true rfl) (lv0 := [(0, .ref ((a_t 0))), (1, .int v1)]) rfl ?_
  intro p e s m args below meth c ls Q cx hret hG hP hl
  have hx := cx.1
  have hb := cx.2.1
  have hG0 := hG
  unfold fX8_isKind at h
  refine lv_iload_n hx hb dX8_isKind_0 rfl (lv_at hl 1 rfl) ?_
  refine lv_i2l (v := v1.toInt64) hx hb dX8_isKind_1 rfl ?_
  refine lv_lconst (v := 0) hx hb dX8_isKind_2 (by decide) ?_
  refine lv_aload_n hx hb dX8_isKind_3 rfl (lv_at hl 0 rfl) ?_
  refine xa_get (C := RX8) (T := TX8) (N := 36) cx hG hP 0 rfl rfl uX8 0 (by decide) lf_X8_21 rfl dX8_isKind_4 ?_
  refine lv_iconst (v := 1) hx hb dX8_isKind_7 (by decide) ?_
  refine xa_iald (k := 1) cx hG hP 1 rfl (show ¬ ((1 : Int32) < 0 ∨ 27 ≤ (1 : Int32).toNatClampNeg) by decide) (by decide) dX8_isKind_8 ?_
  refine lv_iconst (v := 1) hx hb dX8_isKind_9 (by decide) ?_
  refine lv_isub hx hb dX8_isKind_10 ?_
  refine lv_i2l (v := ((t_mem 1) - 1).toInt64) hx hb dX8_isKind_11 rfl ?_
  refine ro_z (runS (As := [.long v1.toInt64, .long (0), .long (((t_mem 1) - 1).toInt64)]) (rest := []) cx hl.1 (ctX8_in l g v1.toInt64 (0) (((t_mem 1) - 1).toInt64) (fX8_in v1.toInt64 0 (((t_mem 1) - 1).toInt64)) rfl) kmX8_in ksX8_in lm_X8_83 ⟨rfl, rfl⟩ ⟨Nat.le_of_ble_eq_true rfl, Nat.le_of_ble_eq_true rfl⟩ (roS hG (hP.sub [] rfl)) rfl rfl (Nat.le_of_ble_eq_true rfl) dX8_isKind_12 ⟨Nat.le_of_ble_eq_true rfl, Nat.le_of_ble_eq_true rfl⟩) (fun hz1 => ?_)
  exact hret _ _ _ dX8_isKind_15 hz1 (Option.some.inj h)
-- X8_isPly
theorem dX8_isPly_0 : decode cX8_isPly 0 = .ok (.iload_n 1, 1) := by decide +kernel
theorem dX8_isPly_1 : decode cX8_isPly 1 = .ok (.i2l, 1) := by decide +kernel
theorem dX8_isPly_2 : decode cX8_isPly 2 = .ok (.lconst 0, 1) := by decide +kernel
theorem dX8_isPly_3 : decode cX8_isPly 3 = .ok (.aload_n 0, 1) := by decide +kernel
theorem dX8_isPly_4 : decode cX8_isPly 4 = .ok (.getfield 21, 3) := by decide +kernel
theorem dX8_isPly_7 : decode cX8_isPly 7 = .ok (.iconst 2, 1) := by decide +kernel
theorem dX8_isPly_8 : decode cX8_isPly 8 = .ok (.iaload, 1) := by decide +kernel
theorem dX8_isPly_9 : decode cX8_isPly 9 = .ok (.iconst 1, 1) := by decide +kernel
theorem dX8_isPly_10 : decode cX8_isPly 10 = .ok (.isub, 1) := by decide +kernel
theorem dX8_isPly_11 : decode cX8_isPly 11 = .ok (.i2l, 1) := by decide +kernel
theorem dX8_isPly_12 : decode cX8_isPly 12 = .ok (.invokestatic 83, 3) := by decide +kernel
theorem dX8_isPly_15 : decode cX8_isPly 15 = .ok (.ireturn, 1) := by decide +kernel
noncomputable def fX8_isPly  (t_mem : Nat → Int32) (v1 : Int32) : Option (Int32) := some (fX8_in v1.toInt64 0 (((t_mem 2) - 1).toInt64))
set_option maxHeartbeats 4000000 in
set_option maxRecDepth 100000 in
theorem ctX8_isPly (l : Launch) (g : GT) (a_t : Nat → Nat) (t_acted : Int32) (t_taped : Int32) (t_faultKind : Int32) (t_faultPlace : Int32) (t_at : Int32) (t_begin : Int32) (t_token : Int32) (t_value : Int32) (t_bad : Int32) (t_wide : Int32) (t_lost : Int32) (t_det : Int64) (t_mask : Int32) (t_mode : Int32) (t_wanted : Int32) (t_orders : Int32) (t_foundAt : Int32) (t_foundBy : Int64) (t_unlikes : Int32) (t_mem : Nat → Int32) (v1 : Int32) (o : Int32) (h : fX8_isPly t_mem v1 = some o) : Met l yX8_isPly (Cond.code yX8_isPly cX8_isPly 2 (some .boolean) :: Tw) ⟨1, 0, 0, 25⟩ (va_Pc [.ref ((a_t 0)), .int v1] (roB g [((a_t 0), .inr (7, [.ref (a_t 1), .ref (a_t 2), .int t_acted, .ref (a_t 4), .ref (a_t 5), .ref (a_t 6), .ref (a_t 7), .ref (a_t 8), .ref (a_t 9), .int t_taped, .int t_faultKind, .int t_faultPlace, .int t_at, .int t_begin, .int t_token, .int t_value, .int t_bad, .ref (a_t 18), .ref (a_t 19), .ref (a_t 20), .int t_wide, .int t_lost, .ref (a_t 23), .long t_det, .ref (a_t 25), .int t_mask, .int t_mode, .int t_wanted, .int t_orders, .int t_foundAt, .long t_foundBy, .ref (a_t 32), .ref (a_t 33), .int t_unlikes, .ref (a_t 35), .ref (a_t 36)])), ((a_t 1), .inl (g.2.2.1 0, 27, .inl t_mem))])) (vp_Si (fun x => x = o ∧ (x = 0 ∨ x = 1))) 0 0 (fun _ => False) := by
  refine ro_metz (by decide) (Nat.le_of_ble_eq_true rfl) (lv0 := [(0, .ref ((a_t 0))), (1, .int v1)]) rfl ?_
  intro p e s m args below meth c ls Q cx hret hG hP hl
  have hx := cx.1
  have hb := cx.2.1
  have hG0 := hG
  unfold fX8_isPly at h
  refine lv_iload_n hx hb dX8_isPly_0 rfl (lv_at hl 1 rfl) ?_
  refine lv_i2l (v := v1.toInt64) hx hb dX8_isPly_1 rfl ?_
  refine lv_lconst (v := 0) hx hb dX8_isPly_2 (by decide) ?_
  refine lv_aload_n hx hb dX8_isPly_3 rfl (lv_at hl 0 rfl) ?_
  refine xa_get (C := RX8) (T := TX8) (N := 36) cx hG hP 0 rfl rfl uX8 0 (by decide) lf_X8_21 rfl dX8_isPly_4 ?_
  refine lv_iconst (v := 2) hx hb dX8_isPly_7 (by decide) ?_
  refine xa_iald (k := 2) cx hG hP 1 rfl (show ¬ ((2 : Int32) < 0 ∨ 27 ≤ (2 : Int32).toNatClampNeg) by decide) (by decide) dX8_isPly_8 ?_
  refine lv_iconst (v := 1) hx hb dX8_isPly_9 (by decide) ?_
  refine lv_isub hx hb dX8_isPly_10 ?_
  refine lv_i2l (v := ((t_mem 2) - 1).toInt64) hx hb dX8_isPly_11 rfl ?_
  refine ro_z (runS (As := [.long v1.toInt64, .long (0), .long (((t_mem 2) - 1).toInt64)]) (rest := []) cx hl.1 (ctX8_in l g v1.toInt64 (0) (((t_mem 2) - 1).toInt64) (fX8_in v1.toInt64 0 (((t_mem 2) - 1).toInt64)) rfl) kmX8_in ksX8_in lm_X8_83 ⟨rfl, rfl⟩ ⟨Nat.le_of_ble_eq_true rfl, Nat.le_of_ble_eq_true rfl⟩ (roS hG (hP.sub [] rfl)) rfl rfl (Nat.le_of_ble_eq_true rfl) dX8_isPly_12 ⟨Nat.le_of_ble_eq_true rfl, Nat.le_of_ble_eq_true rfl⟩) (fun hz1 => ?_)
  exact hret _ _ _ dX8_isPly_15 hz1 (Option.some.inj h)
-- X8_isMask
theorem dX8_isMask_0 : decode cX8_isMask 0 = .ok (.iload_n 0, 1) := by decide +kernel
theorem dX8_isMask_1 : decode cX8_isMask 1 = .ok (.i2l, 1) := by decide +kernel
theorem dX8_isMask_2 : decode cX8_isMask 2 = .ok (.lconst 0, 1) := by decide +kernel
theorem dX8_isMask_3 : decode cX8_isMask 3 = .ok (.ldc2_w 191, 3) := by decide +kernel
theorem dX8_isMask_6 : decode cX8_isMask 6 = .ok (.invokestatic 83, 3) := by decide +kernel
theorem dX8_isMask_9 : decode cX8_isMask 9 = .ok (.ireturn, 1) := by decide +kernel
noncomputable def fX8_isMask  (v0 : Int32) : Int32 := (fX8_in v0.toInt64 0 7)
set_option maxHeartbeats 4000000 in
set_option maxRecDepth 100000 in
theorem ctX8_isMask (l : Launch) (g : GT) (v0 : Int32) (o : Int32) (h : fX8_isMask v0 = o) : Met l yX8_isMask (Cond.code yX8_isMask cX8_isMask 1 (some .boolean) :: Tw) ⟨1, 0, 0, 25⟩ (va_Pc [.int v0] (roB g [])) (vp_Si (fun x => x = o ∧ (x = 0 ∨ x = 1))) 0 0 (fun _ => False) := by
  refine ro_metz (by decide) (Nat.le_of_ble_eq_true rfl) (lv0 := [(0, .int v0)]) rfl ?_
  intro p e s m args below meth c ls Q cx hret hG hP hl
  have hx := cx.1
  have hb := cx.2.1
  have hG0 := hG
  unfold fX8_isMask at h
  refine lv_iload_n hx hb dX8_isMask_0 rfl (lv_at hl 0 rfl) ?_
  refine lv_i2l (v := v0.toInt64) hx hb dX8_isMask_1 rfl ?_
  refine lv_lconst (v := 0) hx hb dX8_isMask_2 (by decide) ?_
  refine lv_ldc2 (own := RX8) (v := 7) hx hb cx.2.2.2.1 (cx.2.2.2.2 _ cl_X8_191) dX8_isMask_3 ?_
  refine ro_z (runS (As := [.long v0.toInt64, .long (0), .long (7)]) (rest := []) cx hl.1 (ctX8_in l g v0.toInt64 (0) (7) (fX8_in v0.toInt64 0 7) rfl) kmX8_in ksX8_in lm_X8_83 ⟨rfl, rfl⟩ ⟨Nat.le_of_ble_eq_true rfl, Nat.le_of_ble_eq_true rfl⟩ (roS hG (hP.sub [] rfl)) rfl rfl (Nat.le_of_ble_eq_true rfl) dX8_isMask_6 ⟨Nat.le_of_ble_eq_true rfl, Nat.le_of_ble_eq_true rfl⟩) (fun hz1 => ?_)
  exact hret _ _ _ dX8_isMask_9 hz1 h
-- X8_count
theorem dX8_count_0 : decode cX8_count 0 = .ok (.iload_n 1, 1) := by decide +kernel
theorem dX8_count_1 : decode cX8_count 1 = .ok (.tableswitch 77 0 5 #[39, 46, 53, 60, 65, 72], 39) := by decide +kernel
theorem dX8_count_40 : decode cX8_count 40 = .ok (.aload_n 0, 1) := by decide +kernel
theorem dX8_count_41 : decode cX8_count 41 = .ok (.getfield 21, 3) := by decide +kernel
theorem dX8_count_44 : decode cX8_count 44 = .ok (.iconst 0, 1) := by decide +kernel
theorem dX8_count_45 : decode cX8_count 45 = .ok (.iaload, 1) := by decide +kernel
theorem dX8_count_46 : decode cX8_count 46 = .ok (.ireturn, 1) := by decide +kernel
theorem dX8_count_47 : decode cX8_count 47 = .ok (.aload_n 0, 1) := by decide +kernel
theorem dX8_count_48 : decode cX8_count 48 = .ok (.getfield 21, 3) := by decide +kernel
theorem dX8_count_51 : decode cX8_count 51 = .ok (.iconst 1, 1) := by decide +kernel
theorem dX8_count_52 : decode cX8_count 52 = .ok (.iaload, 1) := by decide +kernel
theorem dX8_count_53 : decode cX8_count 53 = .ok (.ireturn, 1) := by decide +kernel
theorem dX8_count_54 : decode cX8_count 54 = .ok (.aload_n 0, 1) := by decide +kernel
theorem dX8_count_55 : decode cX8_count 55 = .ok (.getfield 21, 3) := by decide +kernel
theorem dX8_count_58 : decode cX8_count 58 = .ok (.iconst 2, 1) := by decide +kernel
theorem dX8_count_59 : decode cX8_count 59 = .ok (.iaload, 1) := by decide +kernel
theorem dX8_count_60 : decode cX8_count 60 = .ok (.ireturn, 1) := by decide +kernel
theorem dX8_count_61 : decode cX8_count 61 = .ok (.aload_n 0, 1) := by decide +kernel
theorem dX8_count_62 : decode cX8_count 62 = .ok (.getfield 188, 3) := by decide +kernel
theorem dX8_count_65 : decode cX8_count 65 = .ok (.ireturn, 1) := by decide +kernel
theorem dX8_count_66 : decode cX8_count 66 = .ok (.aload_n 0, 1) := by decide +kernel
theorem dX8_count_67 : decode cX8_count 67 = .ok (.getfield 21, 3) := by decide +kernel
theorem dX8_count_70 : decode cX8_count 70 = .ok (.iconst 3, 1) := by decide +kernel
theorem dX8_count_71 : decode cX8_count 71 = .ok (.iaload, 1) := by decide +kernel
theorem dX8_count_72 : decode cX8_count 72 = .ok (.ireturn, 1) := by decide +kernel
theorem dX8_count_73 : decode cX8_count 73 = .ok (.aload_n 0, 1) := by decide +kernel
theorem dX8_count_74 : decode cX8_count 74 = .ok (.getfield 80, 3) := by decide +kernel
theorem dX8_count_77 : decode cX8_count 77 = .ok (.ireturn, 1) := by decide +kernel
theorem dX8_count_78 : decode cX8_count 78 = .ok (.iconst (-1), 1) := by decide +kernel
theorem dX8_count_79 : decode cX8_count 79 = .ok (.ireturn, 1) := by decide +kernel
noncomputable def fX8_count  (t_mem : Nat → Int32) (t_acted : Int32) (t_taped : Int32) (v1 : Int32) : Option (Int32) := (if v1 = 0 then some (t_mem 0) else (if v1 = 1 then some (t_mem 1) else (if v1 = 2 then some (t_mem 2) else (if v1 = 3 then some t_acted else (if v1 = 4 then some (t_mem 3) else (if v1 = 5 then some t_taped else some (-1)))))))
set_option maxHeartbeats 4000000 in
set_option maxRecDepth 100000 in
theorem ctX8_count (l : Launch) (g : GT) (a_t : Nat → Nat) (t_acted : Int32) (t_taped : Int32) (t_faultKind : Int32) (t_faultPlace : Int32) (t_at : Int32) (t_begin : Int32) (t_token : Int32) (t_value : Int32) (t_bad : Int32) (t_wide : Int32) (t_lost : Int32) (t_det : Int64) (t_mask : Int32) (t_mode : Int32) (t_wanted : Int32) (t_orders : Int32) (t_foundAt : Int32) (t_foundBy : Int64) (t_unlikes : Int32) (t_mem : Nat → Int32) (v1 : Int32) (o : Int32) (h : fX8_count t_mem t_acted t_taped v1 = some o) : Met l yX8_count (Cond.code yX8_count cX8_count 2 (some .int) :: Tw) ⟨0, 0, 0, 0⟩ (va_Pc [.ref ((a_t 0)), .int v1] (roB g [((a_t 0), .inr (7, [.ref (a_t 1), .ref (a_t 2), .int t_acted, .ref (a_t 4), .ref (a_t 5), .ref (a_t 6), .ref (a_t 7), .ref (a_t 8), .ref (a_t 9), .int t_taped, .int t_faultKind, .int t_faultPlace, .int t_at, .int t_begin, .int t_token, .int t_value, .int t_bad, .ref (a_t 18), .ref (a_t 19), .ref (a_t 20), .int t_wide, .int t_lost, .ref (a_t 23), .long t_det, .ref (a_t 25), .int t_mask, .int t_mode, .int t_wanted, .int t_orders, .int t_foundAt, .long t_foundBy, .ref (a_t 32), .ref (a_t 33), .int t_unlikes, .ref (a_t 35), .ref (a_t 36)])), ((a_t 1), .inl (g.2.2.1 0, 27, .inl t_mem))])) (vp_Si (fun x => x = o)) 0 0 (fun _ => False) := by
  refine ro_meti (by decide) (Nat.le_of_ble_eq_true rfl) (lv0 := [(0, .ref ((a_t 0))), (1, .int v1)]) rfl ?_
  intro p e s m args below meth c ls Q cx hret hG hP hl
  have hx := cx.1
  have hb := cx.2.1
  have hG0 := hG
  unfold fX8_count at h
  refine lv_iload_n hx hb dX8_count_0 rfl (lv_at hl 1 rfl) ?_
  by_cases c1 : v1 = 0
  · have h := itp c1 h
    refine lv_tableIn (tgt := 40) (off := 39) hx hb dX8_count_1 (by rw [c1]; decide) (by rw [c1]; decide) (by rw [c1]; decide +kernel) (by decide) ?_
    refine lv_aload_n hx hb dX8_count_40 rfl (lv_at hl 0 rfl) ?_
    refine xa_get (C := RX8) (T := TX8) (N := 36) cx hG hP 0 rfl rfl uX8 0 (by decide) lf_X8_21 rfl dX8_count_41 ?_
    refine lv_iconst (v := 0) hx hb dX8_count_44 (by decide) ?_
    refine xa_iald (k := 0) cx hG hP 1 rfl (show ¬ ((0 : Int32) < 0 ∨ 27 ≤ (0 : Int32).toNatClampNeg) by decide) (by decide) dX8_count_45 ?_
    exact hret _ _ _ dX8_count_46 (Option.some.inj h)
  · have h := itn c1 h
    by_cases c2 : v1 = 1
    · have h := itp c2 h
      refine lv_tableIn (tgt := 47) (off := 46) hx hb dX8_count_1 (by rw [c2]; decide) (by rw [c2]; decide) (by rw [c2]; decide +kernel) (by decide) ?_
      refine lv_aload_n hx hb dX8_count_47 rfl (lv_at hl 0 rfl) ?_
      refine xa_get (C := RX8) (T := TX8) (N := 36) cx hG hP 0 rfl rfl uX8 0 (by decide) lf_X8_21 rfl dX8_count_48 ?_
      refine lv_iconst (v := 1) hx hb dX8_count_51 (by decide) ?_
      refine xa_iald (k := 1) cx hG hP 1 rfl (show ¬ ((1 : Int32) < 0 ∨ 27 ≤ (1 : Int32).toNatClampNeg) by decide) (by decide) dX8_count_52 ?_
      exact hret _ _ _ dX8_count_53 (Option.some.inj h)
    · have h := itn c2 h
      by_cases c3 : v1 = 2
      · have h := itp c3 h
        refine lv_tableIn (tgt := 54) (off := 53) hx hb dX8_count_1 (by rw [c3]; decide) (by rw [c3]; decide) (by rw [c3]; decide +kernel) (by decide) ?_
        refine lv_aload_n hx hb dX8_count_54 rfl (lv_at hl 0 rfl) ?_
        refine xa_get (C := RX8) (T := TX8) (N := 36) cx hG hP 0 rfl rfl uX8 0 (by decide) lf_X8_21 rfl dX8_count_55 ?_
        refine lv_iconst (v := 2) hx hb dX8_count_58 (by decide) ?_
        refine xa_iald (k := 2) cx hG hP 1 rfl (show ¬ ((2 : Int32) < 0 ∨ 27 ≤ (2 : Int32).toNatClampNeg) by decide) (by decide) dX8_count_59 ?_
        exact hret _ _ _ dX8_count_60 (Option.some.inj h)
      · have h := itn c3 h
        by_cases c4 : v1 = 3
        · have h := itp c4 h
          refine lv_tableIn (tgt := 61) (off := 60) hx hb dX8_count_1 (by rw [c4]; decide) (by rw [c4]; decide) (by rw [c4]; decide +kernel) (by decide) ?_
          refine lv_aload_n hx hb dX8_count_61 rfl (lv_at hl 0 rfl) ?_
          refine xa_get (C := RX8) (T := TX8) (N := 36) cx hG hP 0 rfl rfl uX8 2 (by decide) lf_X8_188 rfl dX8_count_62 ?_
          exact hret _ _ _ dX8_count_65 (Option.some.inj h)
        · have h := itn c4 h
          by_cases c5 : v1 = 4
          · have h := itp c5 h
            refine lv_tableIn (tgt := 66) (off := 65) hx hb dX8_count_1 (by rw [c5]; decide) (by rw [c5]; decide) (by rw [c5]; decide +kernel) (by decide) ?_
            refine lv_aload_n hx hb dX8_count_66 rfl (lv_at hl 0 rfl) ?_
            refine xa_get (C := RX8) (T := TX8) (N := 36) cx hG hP 0 rfl rfl uX8 0 (by decide) lf_X8_21 rfl dX8_count_67 ?_
            refine lv_iconst (v := 3) hx hb dX8_count_70 (by decide) ?_
            refine xa_iald (k := 3) cx hG hP 1 rfl (show ¬ ((3 : Int32) < 0 ∨ 27 ≤ (3 : Int32).toNatClampNeg) by decide) (by decide) dX8_count_71 ?_
            exact hret _ _ _ dX8_count_72 (Option.some.inj h)
          · have h := itn c5 h
            by_cases c6 : v1 = 5
            · have h := itp c6 h
              refine lv_tableIn (tgt := 73) (off := 72) hx hb dX8_count_1 (by rw [c6]; decide) (by rw [c6]; decide) (by rw [c6]; decide +kernel) (by decide) ?_
              refine lv_aload_n hx hb dX8_count_73 rfl (lv_at hl 0 rfl) ?_
              refine xa_get (C := RX8) (T := TX8) (N := 36) cx hG hP 0 rfl rfl uX8 9 (by decide) lf_X8_80 rfl dX8_count_74 ?_
              exact hret _ _ _ dX8_count_77 (Option.some.inj h)
            · have h := itn c6 h
              refine lv_tableOut (tgt := 78) hx hb dX8_count_1 (tsw6 c1 c2 c3 c4 c5 c6) (by decide) ?_
              refine lv_iconst (v := -1) hx hb dX8_count_78 (by decide) ?_
              exact hret _ _ _ dX8_count_79 (Option.some.inj h)
-- X8_kind
theorem dX8_kind_0 : decode cX8_kind 0 = .ok (.aload_n 0, 1) := by decide +kernel
theorem dX8_kind_1 : decode cX8_kind 1 = .ok (.iload_n 1, 1) := by decide +kernel
theorem dX8_kind_2 : decode cX8_kind 2 = .ok (.invokevirtual 193, 3) := by decide +kernel
theorem dX8_kind_5 : decode cX8_kind 5 = .ok (.ifCond .eq 15, 3) := by decide +kernel
theorem dX8_kind_8 : decode cX8_kind 8 = .ok (.iload_n 2, 1) := by decide +kernel
theorem dX8_kind_9 : decode cX8_kind 9 = .ok (.i2l, 1) := by decide +kernel
theorem dX8_kind_10 : decode cX8_kind 10 = .ok (.lconst 0, 1) := by decide +kernel
theorem dX8_kind_11 : decode cX8_kind 11 = .ok (.ldc2_w 197, 3) := by decide +kernel
theorem dX8_kind_14 : decode cX8_kind 14 = .ok (.invokestatic 83, 3) := by decide +kernel
theorem dX8_kind_17 : decode cX8_kind 17 = .ok (.ifCond .ne 6, 3) := by decide +kernel
theorem dX8_kind_20 : decode cX8_kind 20 = .ok (.bipush (-2), 2) := by decide +kernel
theorem dX8_kind_22 : decode cX8_kind 22 = .ok (.ireturn, 1) := by decide +kernel
theorem dX8_kind_23 : decode cX8_kind 23 = .ok (.iload_n 2, 1) := by decide +kernel
theorem dX8_kind_24 : decode cX8_kind 24 = .ok (.iconst 5, 1) := by decide +kernel
theorem dX8_kind_25 : decode cX8_kind 25 = .ok (.if_icmp .ge 16, 3) := by decide +kernel
theorem dX8_kind_28 : decode cX8_kind 28 = .ok (.aload_n 0, 1) := by decide +kernel
theorem dX8_kind_29 : decode cX8_kind 29 = .ok (.getfield 21, 3) := by decide +kernel
theorem dX8_kind_32 : decode cX8_kind 32 = .ok (.iconst 4, 1) := by decide +kernel
theorem dX8_kind_33 : decode cX8_kind 33 = .ok (.iconst 5, 1) := by decide +kernel
theorem dX8_kind_34 : decode cX8_kind 34 = .ok (.iload_n 1, 1) := by decide +kernel
theorem dX8_kind_35 : decode cX8_kind 35 = .ok (.imul, 1) := by decide +kernel
theorem dX8_kind_36 : decode cX8_kind 36 = .ok (.iadd, 1) := by decide +kernel
theorem dX8_kind_37 : decode cX8_kind 37 = .ok (.iload_n 2, 1) := by decide +kernel
theorem dX8_kind_38 : decode cX8_kind 38 = .ok (.iadd, 1) := by decide +kernel
theorem dX8_kind_39 : decode cX8_kind 39 = .ok (.iaload, 1) := by decide +kernel
theorem dX8_kind_40 : decode cX8_kind 40 = .ok (.ireturn, 1) := by decide +kernel
theorem dX8_kind_41 : decode cX8_kind 41 = .ok (.iconst 0, 1) := by decide +kernel
theorem dX8_kind_42 : decode cX8_kind 42 = .ok (.istore_n 3, 1) := by decide +kernel
theorem dX8_kind_43 : decode cX8_kind 43 = .ok (.iconst 0, 1) := by decide +kernel
theorem dX8_kind_44 : decode cX8_kind 44 = .ok (.istore 4, 2) := by decide +kernel
theorem dX8_kind_46 : decode cX8_kind 46 = .ok (.iload 4, 2) := by decide +kernel
theorem dX8_kind_48 : decode cX8_kind 48 = .ok (.aload_n 0, 1) := by decide +kernel
theorem dX8_kind_49 : decode cX8_kind 49 = .ok (.getfield 21, 3) := by decide +kernel
theorem dX8_kind_52 : decode cX8_kind 52 = .ok (.iconst 2, 1) := by decide +kernel
theorem dX8_kind_53 : decode cX8_kind 53 = .ok (.iaload, 1) := by decide +kernel
theorem dX8_kind_54 : decode cX8_kind 54 = .ok (.if_icmp .ge 33, 3) := by decide +kernel
theorem dX8_kind_57 : decode cX8_kind 57 = .ok (.iload_n 3, 1) := by decide +kernel
theorem dX8_kind_58 : decode cX8_kind 58 = .ok (.aload_n 0, 1) := by decide +kernel
theorem dX8_kind_59 : decode cX8_kind 59 = .ok (.getfield 21, 3) := by decide +kernel
theorem dX8_kind_62 : decode cX8_kind 62 = .ok (.bipush 19, 2) := by decide +kernel
theorem dX8_kind_64 : decode cX8_kind 64 = .ok (.iload 4, 2) := by decide +kernel
theorem dX8_kind_66 : decode cX8_kind 66 = .ok (.iadd, 1) := by decide +kernel
theorem dX8_kind_67 : decode cX8_kind 67 = .ok (.iaload, 1) := by decide +kernel
theorem dX8_kind_68 : decode cX8_kind 68 = .ok (.iconst 4, 1) := by decide +kernel
theorem dX8_kind_69 : decode cX8_kind 69 = .ok (.idiv, 1) := by decide +kernel
theorem dX8_kind_70 : decode cX8_kind 70 = .ok (.iload_n 1, 1) := by decide +kernel
theorem dX8_kind_71 : decode cX8_kind 71 = .ok (.if_icmp .ne 7, 3) := by decide +kernel
theorem dX8_kind_74 : decode cX8_kind 74 = .ok (.iconst 1, 1) := by decide +kernel
theorem dX8_kind_75 : decode cX8_kind 75 = .ok (.goto 4, 3) := by decide +kernel
theorem dX8_kind_78 : decode cX8_kind 78 = .ok (.iconst 0, 1) := by decide +kernel
theorem dX8_kind_79 : decode cX8_kind 79 = .ok (.iadd, 1) := by decide +kernel
theorem dX8_kind_80 : decode cX8_kind 80 = .ok (.istore_n 3, 1) := by decide +kernel
theorem dX8_kind_81 : decode cX8_kind 81 = .ok (.iinc 4 1, 3) := by decide +kernel
theorem dX8_kind_84 : decode cX8_kind 84 = .ok (.goto (-38), 3) := by decide +kernel
theorem dX8_kind_87 : decode cX8_kind 87 = .ok (.iload_n 3, 1) := by decide +kernel
theorem dX8_kind_88 : decode cX8_kind 88 = .ok (.ireturn, 1) := by decide +kernel
noncomputable def fX8_kind_79 (k46 : (Nat → Int32) → Int32 → Int32 → Int32 → Option (Int32)) (t_mem : Nat → Int32) (v1 : Int32) (v4 : Int32) (z0 : Int32) (z1 : Int32) : Option (Int32) := k46 t_mem v1 (z0 + z1) (v4 + 1)
noncomputable def fX8_kind_46  : Nat → (Nat → Int32) → Int32 → Int32 → Int32 → Option (Int32)
  | 0, _, _, _, _ => none
  | n + 1, t_mem, v1, v3, v4 => (if (t_mem 2) ≤ v4 then some v3 else chk 27 (19 + v4) ((if ((t_mem (19 + v4).toNatClampNeg) / 4) = v1 then fX8_kind_79 (fX8_kind_46 n) t_mem v1 v4 v3 1 else fX8_kind_79 (fX8_kind_46 n) t_mem v1 v4 v3 0)))
theorem fX8_kind_46_z  (t_mem : Nat → Int32) (v1 : Int32) (v3 : Int32) (v4 : Int32) : fX8_kind_46  0 t_mem v1 v3 v4 = none := rfl
theorem fX8_kind_46_s  (n : Nat) (t_mem : Nat → Int32) (v1 : Int32) (v3 : Int32) (v4 : Int32) : fX8_kind_46  (n + 1) t_mem v1 v3 v4 = (if (t_mem 2) ≤ v4 then some v3 else chk 27 (19 + v4) ((if ((t_mem (19 + v4).toNatClampNeg) / 4) = v1 then fX8_kind_79 (fX8_kind_46 n) t_mem v1 v4 v3 1 else fX8_kind_79 (fX8_kind_46 n) t_mem v1 v4 v3 0))) := rfl
noncomputable def fX8_kind  (t_mem : Nat → Int32) (v1 : Int32) (v2 : Int32) : Option (Int32) := (fX8_isKind t_mem v1).bind fun r1 => (if r1 = 0 then some (-2) else (if (fX8_in v2.toInt64 0 5) = 0 then some (-2) else (if 5 ≤ v2 then fX8_kind_46 FU t_mem v1 0 0 else chk 27 ((4 + (5 * v1)) + v2) (some (t_mem ((4 + (5 * v1)) + v2).toNatClampNeg)))))
set_option maxHeartbeats 4000000 in
set_option maxRecDepth 100000 in
theorem ctX8_kind (l : Launch) (g : GT) (a_t : Nat → Nat) (t_acted : Int32) (t_taped : Int32) (t_faultKind : Int32) (t_faultPlace : Int32) (t_at : Int32) (t_begin : Int32) (t_token : Int32) (t_value : Int32) (t_bad : Int32) (t_wide : Int32) (t_lost : Int32) (t_det : Int64) (t_mask : Int32) (t_mode : Int32) (t_wanted : Int32) (t_orders : Int32) (t_foundAt : Int32) (t_foundBy : Int64) (t_unlikes : Int32) (t_mem : Nat → Int32) (v1 : Int32) (v2 : Int32) (o : Int32) (h : fX8_kind t_mem v1 v2 = some o) : Met l yX8_kind (Cond.code yX8_kind cX8_kind 5 (some .int) :: Tw) ⟨2, 0, 0, 46⟩ (va_Pc [.ref ((a_t 0)), .int v1, .int v2] (roB g [((a_t 0), .inr (7, [.ref (a_t 1), .ref (a_t 2), .int t_acted, .ref (a_t 4), .ref (a_t 5), .ref (a_t 6), .ref (a_t 7), .ref (a_t 8), .ref (a_t 9), .int t_taped, .int t_faultKind, .int t_faultPlace, .int t_at, .int t_begin, .int t_token, .int t_value, .int t_bad, .ref (a_t 18), .ref (a_t 19), .ref (a_t 20), .int t_wide, .int t_lost, .ref (a_t 23), .long t_det, .ref (a_t 25), .int t_mask, .int t_mode, .int t_wanted, .int t_orders, .int t_foundAt, .long t_foundBy, .ref (a_t 32), .ref (a_t 33), .int t_unlikes, .ref (a_t 35), .ref (a_t 36)])), ((a_t 1), .inl (g.2.2.1 0, 27, .inl t_mem))])) (vp_Si (fun x => x = o)) 0 0 (fun _ => False) := by
  refine ro_meti (by decide) (Nat.le_of_ble_eq_true rfl) (lv0 := [(0, .ref ((a_t 0))), (1, .int v1), (2, .int v2)]) rfl ?_
  intro p e s m args below meth c ls Q cx hret hG hP hl
  have hx := cx.1
  have hb := cx.2.1
  have hG0 := hG
  have w79 : ∀ (k46 : (Nat → Int32) → Int32 → Int32 → Int32 → Option (Int32)) (hk46 : ∀ (v1 : Int32) (v3 : Int32) (v4 : Int32) (ls : Array Slot), lv_has ls 5 [(0, .ref ((a_t 0))), (1, .int v1), (3, .int v3), (4, .int v4)] → k46 t_mem v1 v3 v4 = some o → W p l e ⟨2, 0, 0, 46⟩ s m args below meth c s.heap [] 0 0 Q (F0 m 46 ls [])) (v1 : Int32) (v4 : Int32) (z0 : Int32) (z1 : Int32) (ls : Array Slot), lv_has ls 5 [(0, .ref ((a_t 0))), (1, .int v1), (4, .int v4)] → fX8_kind_79 k46 t_mem v1 v4 z0 z1 = some o → W p l e ⟨2, 0, 0, 46⟩ s m args below meth c s.heap [] 0 0 Q (F0 m 79 ls [.int z1, .int z0]) := by
    intro k46 hk46 v1 v4 z0 z1 ls hl h
    unfold fX8_kind_79 at h
    refine lv_iadd hx hb dX8_kind_79 ?_
    refine lv_istore_n (lv' := [(3, .int (z0 + z1)), (0, .ref ((a_t 0))), (1, .int v1), (4, .int v4)]) hx hb dX8_kind_80 rfl hl (by decide) rfl (fun ls hl => ?_)
    refine lv_iinc (v := v4 + 1) (lv' := [(4, .int (v4 + 1)), (3, .int (z0 + z1)), (0, .ref ((a_t 0))), (1, .int v1)]) hx hb dX8_kind_81 hl (k := 3) rfl rfl (by decide) rfl (fun ls hl => ?_)
    refine lv_goto (tgt := 46) hx hb dX8_kind_84 (by decide) ?_
    exact hk46 v1 (z0 + z1) (v4 + 1) _ (lv_sub hl [2, 3, 1, 0] rfl) h
  have w46 : ∀ (n : Nat) (v1 : Int32) (v3 : Int32) (v4 : Int32) (ls : Array Slot), lv_has ls 5 [(0, .ref ((a_t 0))), (1, .int v1), (3, .int v3), (4, .int v4)] → fX8_kind_46  n t_mem v1 v3 v4 = some o → W p l e ⟨2, 0, 0, 46⟩ s m args below meth c s.heap [] 0 0 Q (F0 m 46 ls []) := by
    intro n
    induction n with
    | zero => intro v1 v3 v4 ls hl h; cases (fX8_kind_46_z  t_mem v1 v3 v4).symm.trans h
    | succ n ih =>
    intro v1 v3 v4 ls hl h
    have h := (fX8_kind_46_s  n t_mem v1 v3 v4).symm.trans h
    refine lv_iload hx hb dX8_kind_46 (lv_at hl 3 rfl) ?_
    refine lv_aload_n hx hb dX8_kind_48 rfl (lv_at hl 0 rfl) ?_
    refine xa_get (C := RX8) (T := TX8) (N := 36) cx hG hP 0 rfl rfl uX8 0 (by decide) lf_X8_21 rfl dX8_kind_49 ?_
    refine lv_iconst (v := 2) hx hb dX8_kind_52 (by decide) ?_
    refine xa_iald (k := 2) cx hG hP 1 rfl (show ¬ ((2 : Int32) < 0 ∨ 27 ≤ (2 : Int32).toNatClampNeg) by decide) (by decide) dX8_kind_53 ?_
    refine lv_icmp_ge (tgt := 87) hx hb dX8_kind_54 (by decide) (fun c9 => ?_) (fun c9 => ?_)
    · have h := itp c9 h
      refine lv_iload_n hx hb dX8_kind_87 rfl (lv_at hl 2 rfl) ?_
      exact hret _ _ _ dX8_kind_88 (Option.some.inj h)
    · have h := itn c9 h
      refine lv_iload_n hx hb dX8_kind_57 rfl (lv_at hl 2 rfl) ?_
      refine lv_aload_n hx hb dX8_kind_58 rfl (lv_at hl 0 rfl) ?_
      refine xa_get (C := RX8) (T := TX8) (N := 36) cx hG hP 0 rfl rfl uX8 0 (by decide) lf_X8_21 rfl dX8_kind_59 ?_
      refine lv_bipush (v := 19) hx hb dX8_kind_62 (by decide) ?_
      refine lv_iload hx hb dX8_kind_64 (lv_at hl 3 rfl) ?_
      refine lv_iadd hx hb dX8_kind_66 ?_
      obtain ⟨hi10, h⟩ := chk_out h
      refine xa_iald cx hG hP 1 rfl hi10 rfl dX8_kind_67 ?_
      refine lv_iconst (v := 4) hx hb dX8_kind_68 (by decide) ?_
      refine lv_idiv hx hb dX8_kind_69 (by decide) ?_
      refine lv_iload_n hx hb dX8_kind_70 rfl (lv_at hl 1 rfl) ?_
      refine lv_icmp_ne (tgt := 78) hx hb dX8_kind_71 (by decide) (fun c11 => ?_) (fun c11 => ?_)
      · have h := itn c11 h
        refine lv_iconst (v := 0) hx hb dX8_kind_78 (by decide) ?_
        exact w79 _ ih v1 v4 v3 0 _ (lv_sub hl [0, 1, 3] rfl) h
      · have h := itp c11 h
        refine lv_iconst (v := 1) hx hb dX8_kind_74 (by decide) ?_
        refine lv_goto (tgt := 79) hx hb dX8_kind_75 (by decide) ?_
        exact w79 _ ih v1 v4 v3 1 _ (lv_sub hl [0, 1, 3] rfl) h
  unfold fX8_kind at h
  refine lv_aload_n hx hb dX8_kind_0 rfl (lv_at hl 0 rfl) ?_
  refine lv_iload_n hx hb dX8_kind_1 rfl (lv_at hl 1 rfl) ?_
  obtain ⟨r1, hr2, h⟩ := bnd h
  refine ro_z (runV (As := [.int v1]) (rest := []) cx hl.1 (ctX8_isKind l g a_t t_acted t_taped t_faultKind t_faultPlace t_at t_begin t_token t_value t_bad t_wide t_lost t_det t_mask t_mode t_wanted t_orders t_foundAt t_foundBy t_unlikes t_mem v1 r1 hr2) kmX8_isKind kvX8_isKind lm_X8_193 ⟨rfl, rfl⟩ ⟨Nat.le_of_ble_eq_true rfl, Nat.le_of_ble_eq_true rfl⟩ (roV (q0 := 0) (ci := 7) hG (hP.sub [0, 1] rfl) hP rfl rfl) rfl rfl (Nat.le_of_ble_eq_true rfl) dX8_kind_2 ⟨Nat.le_of_ble_eq_true rfl, Nat.le_of_ble_eq_true rfl⟩) (fun hz3 => ?_)
  refine lv_if_eq (tgt := 20) hx hb dX8_kind_5 (by decide) (fun c4 => ?_) (fun c4 => ?_)
  · have h := itp c4 h
    refine lv_bipush (v := -2) hx hb dX8_kind_20 (by decide) ?_
    exact hret _ _ _ dX8_kind_22 (Option.some.inj h)
  · have h := itn c4 h
    refine lv_iload_n hx hb dX8_kind_8 rfl (lv_at hl 2 rfl) ?_
    refine lv_i2l (v := v2.toInt64) hx hb dX8_kind_9 rfl ?_
    refine lv_lconst (v := 0) hx hb dX8_kind_10 (by decide) ?_
    refine lv_ldc2 (own := RX8) (v := 5) hx hb cx.2.2.2.1 (cx.2.2.2.2 _ cl_X8_197) dX8_kind_11 ?_
    refine ro_z (runS (As := [.long v2.toInt64, .long (0), .long (5)]) (rest := []) cx hl.1 (ctX8_in l g v2.toInt64 (0) (5) (fX8_in v2.toInt64 0 5) rfl) kmX8_in ksX8_in lm_X8_83 ⟨rfl, rfl⟩ ⟨Nat.le_of_ble_eq_true rfl, Nat.le_of_ble_eq_true rfl⟩ (roS hG (hP.sub [] rfl)) rfl rfl (Nat.le_of_ble_eq_true rfl) dX8_kind_14 ⟨Nat.le_of_ble_eq_true rfl, Nat.le_of_ble_eq_true rfl⟩) (fun hz5 => ?_)
    refine lv_if_ne (tgt := 23) hx hb dX8_kind_17 (by decide) (fun c6 => ?_) (fun c6 => ?_)
    · have h := itn c6 h
      refine lv_iload_n hx hb dX8_kind_23 rfl (lv_at hl 2 rfl) ?_
      refine lv_iconst (v := 5) hx hb dX8_kind_24 (by decide) ?_
      refine lv_icmp_ge (tgt := 41) hx hb dX8_kind_25 (by decide) (fun c7 => ?_) (fun c7 => ?_)
      · have h := itp c7 h
        refine lv_iconst (v := 0) hx hb dX8_kind_41 (by decide) ?_
        refine lv_istore_n (lv' := [(3, .int (0)), (0, .ref ((a_t 0))), (1, .int v1), (2, .int v2)]) hx hb dX8_kind_42 rfl hl (by decide) rfl (fun ls hl => ?_)
        refine lv_iconst (v := 0) hx hb dX8_kind_43 (by decide) ?_
        refine lv_istore (lv' := [(4, .int (0)), (3, .int (0)), (0, .ref ((a_t 0))), (1, .int v1), (2, .int v2)]) hx hb dX8_kind_44 hl (by decide) rfl (fun ls hl => ?_)
        exact w46 FU v1 0 0 _ (lv_sub hl [2, 3, 1, 0] rfl) h
      · have h := itn c7 h
        refine lv_aload_n hx hb dX8_kind_28 rfl (lv_at hl 0 rfl) ?_
        refine xa_get (C := RX8) (T := TX8) (N := 36) cx hG hP 0 rfl rfl uX8 0 (by decide) lf_X8_21 rfl dX8_kind_29 ?_
        refine lv_iconst (v := 4) hx hb dX8_kind_32 (by decide) ?_
        refine lv_iconst (v := 5) hx hb dX8_kind_33 (by decide) ?_
        refine lv_iload_n hx hb dX8_kind_34 rfl (lv_at hl 1 rfl) ?_
        refine lv_imul hx hb dX8_kind_35 ?_
        refine lv_iadd hx hb dX8_kind_36 ?_
        refine lv_iload_n hx hb dX8_kind_37 rfl (lv_at hl 2 rfl) ?_
        refine lv_iadd hx hb dX8_kind_38 ?_
        obtain ⟨hi8, h⟩ := chk_out h
        refine xa_iald cx hG hP 1 rfl hi8 rfl dX8_kind_39 ?_
        exact hret _ _ _ dX8_kind_40 (Option.some.inj h)
    · have h := itp c6 h
      refine lv_bipush (v := -2) hx hb dX8_kind_20 (by decide) ?_
      exact hret _ _ _ dX8_kind_22 (Option.some.inj h)
-- X8_ply
theorem dX8_ply_0 : decode cX8_ply 0 = .ok (.aload_n 0, 1) := by decide +kernel
theorem dX8_ply_1 : decode cX8_ply 1 = .ok (.iload_n 1, 1) := by decide +kernel
theorem dX8_ply_2 : decode cX8_ply 2 = .ok (.invokevirtual 199, 3) := by decide +kernel
theorem dX8_ply_5 : decode cX8_ply 5 = .ok (.ifCond .eq 15, 3) := by decide +kernel
theorem dX8_ply_8 : decode cX8_ply 8 = .ok (.iload_n 2, 1) := by decide +kernel
theorem dX8_ply_9 : decode cX8_ply 9 = .ok (.i2l, 1) := by decide +kernel
theorem dX8_ply_10 : decode cX8_ply 10 = .ok (.lconst 0, 1) := by decide +kernel
theorem dX8_ply_11 : decode cX8_ply 11 = .ok (.ldc2_w 202, 3) := by decide +kernel
theorem dX8_ply_14 : decode cX8_ply 14 = .ok (.invokestatic 83, 3) := by decide +kernel
theorem dX8_ply_17 : decode cX8_ply 17 = .ok (.ifCond .ne 6, 3) := by decide +kernel
theorem dX8_ply_20 : decode cX8_ply 20 = .ok (.bipush (-2), 2) := by decide +kernel
theorem dX8_ply_22 : decode cX8_ply 22 = .ok (.ireturn, 1) := by decide +kernel
theorem dX8_ply_23 : decode cX8_ply 23 = .ok (.iconst 2, 1) := by decide +kernel
theorem dX8_ply_24 : decode cX8_ply 24 = .ok (.iload_n 1, 1) := by decide +kernel
theorem dX8_ply_25 : decode cX8_ply 25 = .ok (.imul, 1) := by decide +kernel
theorem dX8_ply_26 : decode cX8_ply 26 = .ok (.iconst 1, 1) := by decide +kernel
theorem dX8_ply_27 : decode cX8_ply 27 = .ok (.iadd, 1) := by decide +kernel
theorem dX8_ply_28 : decode cX8_ply 28 = .ok (.aload_n 0, 1) := by decide +kernel
theorem dX8_ply_29 : decode cX8_ply 29 = .ok (.getfield 21, 3) := by decide +kernel
theorem dX8_ply_32 : decode cX8_ply 32 = .ok (.iconst 2, 1) := by decide +kernel
theorem dX8_ply_33 : decode cX8_ply 33 = .ok (.iaload, 1) := by decide +kernel
theorem dX8_ply_34 : decode cX8_ply 34 = .ok (.isub, 1) := by decide +kernel
theorem dX8_ply_35 : decode cX8_ply 35 = .ok (.istore_n 3, 1) := by decide +kernel
theorem dX8_ply_36 : decode cX8_ply 36 = .ok (.aload_n 0, 1) := by decide +kernel
theorem dX8_ply_37 : decode cX8_ply 37 = .ok (.getfield 21, 3) := by decide +kernel
theorem dX8_ply_40 : decode cX8_ply 40 = .ok (.bipush 19, 2) := by decide +kernel
theorem dX8_ply_42 : decode cX8_ply 42 = .ok (.iload_n 1, 1) := by decide +kernel
theorem dX8_ply_43 : decode cX8_ply 43 = .ok (.iadd, 1) := by decide +kernel
theorem dX8_ply_44 : decode cX8_ply 44 = .ok (.iaload, 1) := by decide +kernel
theorem dX8_ply_45 : decode cX8_ply 45 = .ok (.istore 4, 2) := by decide +kernel
theorem dX8_ply_47 : decode cX8_ply 47 = .ok (.iload_n 2, 1) := by decide +kernel
theorem dX8_ply_48 : decode cX8_ply 48 = .ok (.ifCond .ne 10, 3) := by decide +kernel
theorem dX8_ply_51 : decode cX8_ply 51 = .ok (.iload 4, 2) := by decide +kernel
theorem dX8_ply_53 : decode cX8_ply 53 = .ok (.iconst 4, 1) := by decide +kernel
theorem dX8_ply_54 : decode cX8_ply 54 = .ok (.idiv, 1) := by decide +kernel
theorem dX8_ply_55 : decode cX8_ply 55 = .ok (.goto 41, 3) := by decide +kernel
theorem dX8_ply_58 : decode cX8_ply 58 = .ok (.iload_n 2, 1) := by decide +kernel
theorem dX8_ply_59 : decode cX8_ply 59 = .ok (.iconst 1, 1) := by decide +kernel
theorem dX8_ply_60 : decode cX8_ply 60 = .ok (.if_icmp .ne 10, 3) := by decide +kernel
theorem dX8_ply_63 : decode cX8_ply 63 = .ok (.iload 4, 2) := by decide +kernel
theorem dX8_ply_65 : decode cX8_ply 65 = .ok (.iconst 4, 1) := by decide +kernel
theorem dX8_ply_66 : decode cX8_ply 66 = .ok (.irem, 1) := by decide +kernel
theorem dX8_ply_67 : decode cX8_ply 67 = .ok (.goto 29, 3) := by decide +kernel
theorem dX8_ply_70 : decode cX8_ply 70 = .ok (.iload_n 2, 1) := by decide +kernel
theorem dX8_ply_71 : decode cX8_ply 71 = .ok (.iconst 2, 1) := by decide +kernel
theorem dX8_ply_72 : decode cX8_ply 72 = .ok (.if_icmp .ne 8, 3) := by decide +kernel
theorem dX8_ply_75 : decode cX8_ply 75 = .ok (.iload 4, 2) := by decide +kernel
theorem dX8_ply_77 : decode cX8_ply 77 = .ok (.goto 19, 3) := by decide +kernel
theorem dX8_ply_80 : decode cX8_ply 80 = .ok (.iload_n 2, 1) := by decide +kernel
theorem dX8_ply_81 : decode cX8_ply 81 = .ok (.iconst 3, 1) := by decide +kernel
theorem dX8_ply_82 : decode cX8_ply 82 = .ok (.if_icmp .ne 7, 3) := by decide +kernel
theorem dX8_ply_85 : decode cX8_ply 85 = .ok (.iload_n 3, 1) := by decide +kernel
theorem dX8_ply_86 : decode cX8_ply 86 = .ok (.goto 10, 3) := by decide +kernel
theorem dX8_ply_89 : decode cX8_ply 89 = .ok (.iconst 3, 1) := by decide +kernel
theorem dX8_ply_90 : decode cX8_ply 90 = .ok (.iload_n 3, 1) := by decide +kernel
theorem dX8_ply_91 : decode cX8_ply 91 = .ok (.imul, 1) := by decide +kernel
theorem dX8_ply_92 : decode cX8_ply 92 = .ok (.iload_n 3, 1) := by decide +kernel
theorem dX8_ply_93 : decode cX8_ply 93 = .ok (.imul, 1) := by decide +kernel
theorem dX8_ply_94 : decode cX8_ply 94 = .ok (.iconst 1, 1) := by decide +kernel
theorem dX8_ply_95 : decode cX8_ply 95 = .ok (.iadd, 1) := by decide +kernel
theorem dX8_ply_96 : decode cX8_ply 96 = .ok (.ireturn, 1) := by decide +kernel
noncomputable def fX8_ply  (t_mem : Nat → Int32) (v1 : Int32) (v2 : Int32) : Option (Int32) := (fX8_isPly t_mem v1).bind fun r1 => (if r1 = 0 then some (-2) else (if (fX8_in v2.toInt64 0 4) = 0 then some (-2) else chk 27 (19 + v1) ((if v2 = 0 then some ((t_mem (19 + v1).toNatClampNeg) / 4) else (if v2 = 1 then some (irem (t_mem (19 + v1).toNatClampNeg) 4) else (if v2 = 2 then some (t_mem (19 + v1).toNatClampNeg) else (if v2 = 3 then some (((2 * v1) + 1) - (t_mem 2)) else some (((3 * (((2 * v1) + 1) - (t_mem 2))) * (((2 * v1) + 1) - (t_mem 2))) + 1))))))))
set_option maxHeartbeats 4000000 in
set_option maxRecDepth 100000 in
theorem ctX8_ply (l : Launch) (g : GT) (a_t : Nat → Nat) (t_acted : Int32) (t_taped : Int32) (t_faultKind : Int32) (t_faultPlace : Int32) (t_at : Int32) (t_begin : Int32) (t_token : Int32) (t_value : Int32) (t_bad : Int32) (t_wide : Int32) (t_lost : Int32) (t_det : Int64) (t_mask : Int32) (t_mode : Int32) (t_wanted : Int32) (t_orders : Int32) (t_foundAt : Int32) (t_foundBy : Int64) (t_unlikes : Int32) (t_mem : Nat → Int32) (v1 : Int32) (v2 : Int32) (o : Int32) (h : fX8_ply t_mem v1 v2 = some o) : Met l yX8_ply (Cond.code yX8_ply cX8_ply 5 (some .int) :: Tw) ⟨2, 0, 0, 46⟩ (va_Pc [.ref ((a_t 0)), .int v1, .int v2] (roB g [((a_t 0), .inr (7, [.ref (a_t 1), .ref (a_t 2), .int t_acted, .ref (a_t 4), .ref (a_t 5), .ref (a_t 6), .ref (a_t 7), .ref (a_t 8), .ref (a_t 9), .int t_taped, .int t_faultKind, .int t_faultPlace, .int t_at, .int t_begin, .int t_token, .int t_value, .int t_bad, .ref (a_t 18), .ref (a_t 19), .ref (a_t 20), .int t_wide, .int t_lost, .ref (a_t 23), .long t_det, .ref (a_t 25), .int t_mask, .int t_mode, .int t_wanted, .int t_orders, .int t_foundAt, .long t_foundBy, .ref (a_t 32), .ref (a_t 33), .int t_unlikes, .ref (a_t 35), .ref (a_t 36)])), ((a_t 1), .inl (g.2.2.1 0, 27, .inl t_mem))])) (vp_Si (fun x => x = o)) 0 0 (fun _ => False) := by
  refine ro_meti (by decide) (Nat.le_of_ble_eq_true rfl) (lv0 := [(0, .ref ((a_t 0))), (1, .int v1), (2, .int v2)]) rfl ?_
  intro p e s m args below meth c ls Q cx hret hG hP hl
  have hx := cx.1
  have hb := cx.2.1
  have hG0 := hG
  unfold fX8_ply at h
  refine lv_aload_n hx hb dX8_ply_0 rfl (lv_at hl 0 rfl) ?_
  refine lv_iload_n hx hb dX8_ply_1 rfl (lv_at hl 1 rfl) ?_
  obtain ⟨r1, hr2, h⟩ := bnd h
  refine ro_z (runV (As := [.int v1]) (rest := []) cx hl.1 (ctX8_isPly l g a_t t_acted t_taped t_faultKind t_faultPlace t_at t_begin t_token t_value t_bad t_wide t_lost t_det t_mask t_mode t_wanted t_orders t_foundAt t_foundBy t_unlikes t_mem v1 r1 hr2) kmX8_isPly kvX8_isPly lm_X8_199 ⟨rfl, rfl⟩ ⟨Nat.le_of_ble_eq_true rfl, Nat.le_of_ble_eq_true rfl⟩ (roV (q0 := 0) (ci := 7) hG (hP.sub [0, 1] rfl) hP rfl rfl) rfl rfl (Nat.le_of_ble_eq_true rfl) dX8_ply_2 ⟨Nat.le_of_ble_eq_true rfl, Nat.le_of_ble_eq_true rfl⟩) (fun hz3 => ?_)
  refine lv_if_eq (tgt := 20) hx hb dX8_ply_5 (by decide) (fun c4 => ?_) (fun c4 => ?_)
  · have h := itp c4 h
    refine lv_bipush (v := -2) hx hb dX8_ply_20 (by decide) ?_
    exact hret _ _ _ dX8_ply_22 (Option.some.inj h)
  · have h := itn c4 h
    refine lv_iload_n hx hb dX8_ply_8 rfl (lv_at hl 2 rfl) ?_
    refine lv_i2l (v := v2.toInt64) hx hb dX8_ply_9 rfl ?_
    refine lv_lconst (v := 0) hx hb dX8_ply_10 (by decide) ?_
    refine lv_ldc2 (own := RX8) (v := 4) hx hb cx.2.2.2.1 (cx.2.2.2.2 _ cl_X8_202) dX8_ply_11 ?_
    refine ro_z (runS (As := [.long v2.toInt64, .long (0), .long (4)]) (rest := []) cx hl.1 (ctX8_in l g v2.toInt64 (0) (4) (fX8_in v2.toInt64 0 4) rfl) kmX8_in ksX8_in lm_X8_83 ⟨rfl, rfl⟩ ⟨Nat.le_of_ble_eq_true rfl, Nat.le_of_ble_eq_true rfl⟩ (roS hG (hP.sub [] rfl)) rfl rfl (Nat.le_of_ble_eq_true rfl) dX8_ply_14 ⟨Nat.le_of_ble_eq_true rfl, Nat.le_of_ble_eq_true rfl⟩) (fun hz5 => ?_)
    refine lv_if_ne (tgt := 23) hx hb dX8_ply_17 (by decide) (fun c6 => ?_) (fun c6 => ?_)
    · have h := itn c6 h
      refine lv_iconst (v := 2) hx hb dX8_ply_23 (by decide) ?_
      refine lv_iload_n hx hb dX8_ply_24 rfl (lv_at hl 1 rfl) ?_
      refine lv_imul hx hb dX8_ply_25 ?_
      refine lv_iconst (v := 1) hx hb dX8_ply_26 (by decide) ?_
      refine lv_iadd hx hb dX8_ply_27 ?_
      refine lv_aload_n hx hb dX8_ply_28 rfl (lv_at hl 0 rfl) ?_
      refine xa_get (C := RX8) (T := TX8) (N := 36) cx hG hP 0 rfl rfl uX8 0 (by decide) lf_X8_21 rfl dX8_ply_29 ?_
      refine lv_iconst (v := 2) hx hb dX8_ply_32 (by decide) ?_
      refine xa_iald (k := 2) cx hG hP 1 rfl (show ¬ ((2 : Int32) < 0 ∨ 27 ≤ (2 : Int32).toNatClampNeg) by decide) (by decide) dX8_ply_33 ?_
      refine lv_isub hx hb dX8_ply_34 ?_
      refine lv_istore_n (lv' := [(3, .int (((2 * v1) + 1) - (t_mem 2))), (0, .ref ((a_t 0))), (1, .int v1), (2, .int v2)]) hx hb dX8_ply_35 rfl hl (by decide) rfl (fun ls hl => ?_)
      refine lv_aload_n hx hb dX8_ply_36 rfl (lv_at hl 1 rfl) ?_
      refine xa_get (C := RX8) (T := TX8) (N := 36) cx hG hP 0 rfl rfl uX8 0 (by decide) lf_X8_21 rfl dX8_ply_37 ?_
      refine lv_bipush (v := 19) hx hb dX8_ply_40 (by decide) ?_
      refine lv_iload_n hx hb dX8_ply_42 rfl (lv_at hl 2 rfl) ?_
      refine lv_iadd hx hb dX8_ply_43 ?_
      obtain ⟨hi7, h⟩ := chk_out h
      refine xa_iald cx hG hP 1 rfl hi7 rfl dX8_ply_44 ?_
      refine lv_istore (lv' := [(4, .int (t_mem (19 + v1).toNatClampNeg)), (3, .int (((2 * v1) + 1) - (t_mem 2))), (0, .ref ((a_t 0))), (1, .int v1), (2, .int v2)]) hx hb dX8_ply_45 hl (by decide) rfl (fun ls hl => ?_)
      refine lv_iload_n hx hb dX8_ply_47 rfl (lv_at hl 4 rfl) ?_
      refine lv_if_ne (tgt := 58) hx hb dX8_ply_48 (by decide) (fun c8 => ?_) (fun c8 => ?_)
      · have h := itn c8 h
        refine lv_iload_n hx hb dX8_ply_58 rfl (lv_at hl 4 rfl) ?_
        refine lv_iconst (v := 1) hx hb dX8_ply_59 (by decide) ?_
        refine lv_icmp_ne (tgt := 70) hx hb dX8_ply_60 (by decide) (fun c9 => ?_) (fun c9 => ?_)
        · have h := itn c9 h
          refine lv_iload_n hx hb dX8_ply_70 rfl (lv_at hl 4 rfl) ?_
          refine lv_iconst (v := 2) hx hb dX8_ply_71 (by decide) ?_
          refine lv_icmp_ne (tgt := 80) hx hb dX8_ply_72 (by decide) (fun c10 => ?_) (fun c10 => ?_)
          · have h := itn c10 h
            refine lv_iload_n hx hb dX8_ply_80 rfl (lv_at hl 4 rfl) ?_
            refine lv_iconst (v := 3) hx hb dX8_ply_81 (by decide) ?_
            refine lv_icmp_ne (tgt := 89) hx hb dX8_ply_82 (by decide) (fun c11 => ?_) (fun c11 => ?_)
            · have h := itn c11 h
              refine lv_iconst (v := 3) hx hb dX8_ply_89 (by decide) ?_
              refine lv_iload_n hx hb dX8_ply_90 rfl (lv_at hl 1 rfl) ?_
              refine lv_imul hx hb dX8_ply_91 ?_
              refine lv_iload_n hx hb dX8_ply_92 rfl (lv_at hl 1 rfl) ?_
              refine lv_imul hx hb dX8_ply_93 ?_
              refine lv_iconst (v := 1) hx hb dX8_ply_94 (by decide) ?_
              refine lv_iadd hx hb dX8_ply_95 ?_
              exact hret _ _ _ dX8_ply_96 (Option.some.inj h)
            · have h := itp c11 h
              refine lv_iload_n hx hb dX8_ply_85 rfl (lv_at hl 1 rfl) ?_
              refine lv_goto (tgt := 96) hx hb dX8_ply_86 (by decide) ?_
              exact hret _ _ _ dX8_ply_96 (Option.some.inj h)
          · have h := itp c10 h
            refine lv_iload hx hb dX8_ply_75 (lv_at hl 0 rfl) ?_
            refine lv_goto (tgt := 96) hx hb dX8_ply_77 (by decide) ?_
            exact hret _ _ _ dX8_ply_96 (Option.some.inj h)
        · have h := itp c9 h
          refine lv_iload hx hb dX8_ply_63 (lv_at hl 0 rfl) ?_
          refine lv_iconst (v := 4) hx hb dX8_ply_65 (by decide) ?_
          refine xv_irem hx hb dX8_ply_66 (by decide) ?_
          refine lv_goto (tgt := 96) hx hb dX8_ply_67 (by decide) ?_
          exact hret _ _ _ dX8_ply_96 (Option.some.inj h)
      · have h := itp c8 h
        refine lv_iload hx hb dX8_ply_51 (lv_at hl 0 rfl) ?_
        refine lv_iconst (v := 4) hx hb dX8_ply_53 (by decide) ?_
        refine lv_idiv hx hb dX8_ply_54 (by decide) ?_
        refine lv_goto (tgt := 96) hx hb dX8_ply_55 (by decide) ?_
        exact hret _ _ _ dX8_ply_96 (Option.some.inj h)
    · have h := itp c6 h
      refine lv_bipush (v := -2) hx hb dX8_ply_20 (by decide) ?_
      exact hret _ _ _ dX8_ply_22 (Option.some.inj h)
-- X8_many
theorem dX8_many_0 : decode cX8_many 0 = .ok (.aload_n 0, 1) := by decide +kernel
theorem dX8_many_1 : decode cX8_many 1 = .ok (.iload_n 1, 1) := by decide +kernel
theorem dX8_many_2 : decode cX8_many 2 = .ok (.invokevirtual 193, 3) := by decide +kernel
theorem dX8_many_5 : decode cX8_many 5 = .ok (.ifCond .eq 15, 3) := by decide +kernel
theorem dX8_many_8 : decode cX8_many 8 = .ok (.iload_n 2, 1) := by decide +kernel
theorem dX8_many_9 : decode cX8_many 9 = .ok (.i2l, 1) := by decide +kernel
theorem dX8_many_10 : decode cX8_many 10 = .ok (.lconst 0, 1) := by decide +kernel
theorem dX8_many_11 : decode cX8_many 11 = .ok (.ldc2_w 204, 3) := by decide +kernel
theorem dX8_many_14 : decode cX8_many 14 = .ok (.invokestatic 83, 3) := by decide +kernel
theorem dX8_many_17 : decode cX8_many 17 = .ok (.ifCond .ne 6, 3) := by decide +kernel
theorem dX8_many_20 : decode cX8_many 20 = .ok (.bipush (-2), 2) := by decide +kernel
theorem dX8_many_22 : decode cX8_many 22 = .ok (.ireturn, 1) := by decide +kernel
theorem dX8_many_23 : decode cX8_many 23 = .ok (.iconst 0, 1) := by decide +kernel
theorem dX8_many_24 : decode cX8_many 24 = .ok (.istore_n 3, 1) := by decide +kernel
theorem dX8_many_25 : decode cX8_many 25 = .ok (.iconst 0, 1) := by decide +kernel
theorem dX8_many_26 : decode cX8_many 26 = .ok (.istore 4, 2) := by decide +kernel
theorem dX8_many_28 : decode cX8_many 28 = .ok (.iload 4, 2) := by decide +kernel
theorem dX8_many_30 : decode cX8_many 30 = .ok (.aload_n 0, 1) := by decide +kernel
theorem dX8_many_31 : decode cX8_many 31 = .ok (.getfield 21, 3) := by decide +kernel
theorem dX8_many_34 : decode cX8_many 34 = .ok (.iconst 2, 1) := by decide +kernel
theorem dX8_many_35 : decode cX8_many 35 = .ok (.iaload, 1) := by decide +kernel
theorem dX8_many_36 : decode cX8_many 36 = .ok (.if_icmp .ge 35, 3) := by decide +kernel
theorem dX8_many_39 : decode cX8_many 39 = .ok (.iload_n 3, 1) := by decide +kernel
theorem dX8_many_40 : decode cX8_many 40 = .ok (.aload_n 0, 1) := by decide +kernel
theorem dX8_many_41 : decode cX8_many 41 = .ok (.getfield 21, 3) := by decide +kernel
theorem dX8_many_44 : decode cX8_many 44 = .ok (.bipush 19, 2) := by decide +kernel
theorem dX8_many_46 : decode cX8_many 46 = .ok (.iload 4, 2) := by decide +kernel
theorem dX8_many_48 : decode cX8_many 48 = .ok (.iadd, 1) := by decide +kernel
theorem dX8_many_49 : decode cX8_many 49 = .ok (.iaload, 1) := by decide +kernel
theorem dX8_many_50 : decode cX8_many 50 = .ok (.iconst 4, 1) := by decide +kernel
theorem dX8_many_51 : decode cX8_many 51 = .ok (.iload_n 1, 1) := by decide +kernel
theorem dX8_many_52 : decode cX8_many 52 = .ok (.imul, 1) := by decide +kernel
theorem dX8_many_53 : decode cX8_many 53 = .ok (.iload_n 2, 1) := by decide +kernel
theorem dX8_many_54 : decode cX8_many 54 = .ok (.iadd, 1) := by decide +kernel
theorem dX8_many_55 : decode cX8_many 55 = .ok (.if_icmp .ne 7, 3) := by decide +kernel
theorem dX8_many_58 : decode cX8_many 58 = .ok (.iconst 1, 1) := by decide +kernel
theorem dX8_many_59 : decode cX8_many 59 = .ok (.goto 4, 3) := by decide +kernel
theorem dX8_many_62 : decode cX8_many 62 = .ok (.iconst 0, 1) := by decide +kernel
theorem dX8_many_63 : decode cX8_many 63 = .ok (.iadd, 1) := by decide +kernel
theorem dX8_many_64 : decode cX8_many 64 = .ok (.istore_n 3, 1) := by decide +kernel
theorem dX8_many_65 : decode cX8_many 65 = .ok (.iinc 4 1, 3) := by decide +kernel
theorem dX8_many_68 : decode cX8_many 68 = .ok (.goto (-40), 3) := by decide +kernel
theorem dX8_many_71 : decode cX8_many 71 = .ok (.iload_n 3, 1) := by decide +kernel
theorem dX8_many_72 : decode cX8_many 72 = .ok (.ireturn, 1) := by decide +kernel
noncomputable def fX8_many_63 (k28 : (Nat → Int32) → Int32 → Int32 → Int32 → Int32 → Option (Int32)) (t_mem : Nat → Int32) (v1 : Int32) (v2 : Int32) (v4 : Int32) (z0 : Int32) (z1 : Int32) : Option (Int32) := k28 t_mem v1 v2 (z0 + z1) (v4 + 1)
noncomputable def fX8_many_28  : Nat → (Nat → Int32) → Int32 → Int32 → Int32 → Int32 → Option (Int32)
  | 0, _, _, _, _, _ => none
  | n + 1, t_mem, v1, v2, v3, v4 => (if (t_mem 2) ≤ v4 then some v3 else chk 27 (19 + v4) ((if (t_mem (19 + v4).toNatClampNeg) = ((4 * v1) + v2) then fX8_many_63 (fX8_many_28 n) t_mem v1 v2 v4 v3 1 else fX8_many_63 (fX8_many_28 n) t_mem v1 v2 v4 v3 0)))
theorem fX8_many_28_z  (t_mem : Nat → Int32) (v1 : Int32) (v2 : Int32) (v3 : Int32) (v4 : Int32) : fX8_many_28  0 t_mem v1 v2 v3 v4 = none := rfl
theorem fX8_many_28_s  (n : Nat) (t_mem : Nat → Int32) (v1 : Int32) (v2 : Int32) (v3 : Int32) (v4 : Int32) : fX8_many_28  (n + 1) t_mem v1 v2 v3 v4 = (if (t_mem 2) ≤ v4 then some v3 else chk 27 (19 + v4) ((if (t_mem (19 + v4).toNatClampNeg) = ((4 * v1) + v2) then fX8_many_63 (fX8_many_28 n) t_mem v1 v2 v4 v3 1 else fX8_many_63 (fX8_many_28 n) t_mem v1 v2 v4 v3 0))) := rfl
noncomputable def fX8_many  (t_mem : Nat → Int32) (v1 : Int32) (v2 : Int32) : Option (Int32) := (fX8_isKind t_mem v1).bind fun r1 => (if r1 = 0 then some (-2) else (if (fX8_in v2.toInt64 0 3) = 0 then some (-2) else fX8_many_28 FU t_mem v1 v2 0 0))
set_option maxHeartbeats 4000000 in
set_option maxRecDepth 100000 in
theorem ctX8_many (l : Launch) (g : GT) (a_t : Nat → Nat) (t_acted : Int32) (t_taped : Int32) (t_faultKind : Int32) (t_faultPlace : Int32) (t_at : Int32) (t_begin : Int32) (t_token : Int32) (t_value : Int32) (t_bad : Int32) (t_wide : Int32) (t_lost : Int32) (t_det : Int64) (t_mask : Int32) (t_mode : Int32) (t_wanted : Int32) (t_orders : Int32) (t_foundAt : Int32) (t_foundBy : Int64) (t_unlikes : Int32) (t_mem : Nat → Int32) (v1 : Int32) (v2 : Int32) (o : Int32) (h : fX8_many t_mem v1 v2 = some o) : Met l yX8_many (Cond.code yX8_many cX8_many 5 (some .int) :: Tw) ⟨2, 0, 0, 46⟩ (va_Pc [.ref ((a_t 0)), .int v1, .int v2] (roB g [((a_t 0), .inr (7, [.ref (a_t 1), .ref (a_t 2), .int t_acted, .ref (a_t 4), .ref (a_t 5), .ref (a_t 6), .ref (a_t 7), .ref (a_t 8), .ref (a_t 9), .int t_taped, .int t_faultKind, .int t_faultPlace, .int t_at, .int t_begin, .int t_token, .int t_value, .int t_bad, .ref (a_t 18), .ref (a_t 19), .ref (a_t 20), .int t_wide, .int t_lost, .ref (a_t 23), .long t_det, .ref (a_t 25), .int t_mask, .int t_mode, .int t_wanted, .int t_orders, .int t_foundAt, .long t_foundBy, .ref (a_t 32), .ref (a_t 33), .int t_unlikes, .ref (a_t 35), .ref (a_t 36)])), ((a_t 1), .inl (g.2.2.1 0, 27, .inl t_mem))])) (vp_Si (fun x => x = o)) 0 0 (fun _ => False) := by
  refine ro_meti (by decide) (Nat.le_of_ble_eq_true rfl) (lv0 := [(0, .ref ((a_t 0))), (1, .int v1), (2, .int v2)]) rfl ?_
  intro p e s m args below meth c ls Q cx hret hG hP hl
  have hx := cx.1
  have hb := cx.2.1
  have hG0 := hG
  have w63 : ∀ (k28 : (Nat → Int32) → Int32 → Int32 → Int32 → Int32 → Option (Int32)) (hk28 : ∀ (v1 : Int32) (v2 : Int32) (v3 : Int32) (v4 : Int32) (ls : Array Slot), lv_has ls 5 [(0, .ref ((a_t 0))), (1, .int v1), (2, .int v2), (3, .int v3), (4, .int v4)] → k28 t_mem v1 v2 v3 v4 = some o → W p l e ⟨2, 0, 0, 46⟩ s m args below meth c s.heap [] 0 0 Q (F0 m 28 ls [])) (v1 : Int32) (v2 : Int32) (v4 : Int32) (z0 : Int32) (z1 : Int32) (ls : Array Slot), lv_has ls 5 [(0, .ref ((a_t 0))), (1, .int v1), (2, .int v2), (4, .int v4)] → fX8_many_63 k28 t_mem v1 v2 v4 z0 z1 = some o → W p l e ⟨2, 0, 0, 46⟩ s m args below meth c s.heap [] 0 0 Q (F0 m 63 ls [.int z1, .int z0]) := by
    intro k28 hk28 v1 v2 v4 z0 z1 ls hl h
    unfold fX8_many_63 at h
    refine lv_iadd hx hb dX8_many_63 ?_
    refine lv_istore_n (lv' := [(3, .int (z0 + z1)), (0, .ref ((a_t 0))), (1, .int v1), (2, .int v2), (4, .int v4)]) hx hb dX8_many_64 rfl hl (by decide) rfl (fun ls hl => ?_)
    refine lv_iinc (v := v4 + 1) (lv' := [(4, .int (v4 + 1)), (3, .int (z0 + z1)), (0, .ref ((a_t 0))), (1, .int v1), (2, .int v2)]) hx hb dX8_many_65 hl (k := 4) rfl rfl (by decide) rfl (fun ls hl => ?_)
    refine lv_goto (tgt := 28) hx hb dX8_many_68 (by decide) ?_
    exact hk28 v1 v2 (z0 + z1) (v4 + 1) _ (lv_sub hl [2, 3, 4, 1, 0] rfl) h
  have w28 : ∀ (n : Nat) (v1 : Int32) (v2 : Int32) (v3 : Int32) (v4 : Int32) (ls : Array Slot), lv_has ls 5 [(0, .ref ((a_t 0))), (1, .int v1), (2, .int v2), (3, .int v3), (4, .int v4)] → fX8_many_28  n t_mem v1 v2 v3 v4 = some o → W p l e ⟨2, 0, 0, 46⟩ s m args below meth c s.heap [] 0 0 Q (F0 m 28 ls []) := by
    intro n
    induction n with
    | zero => intro v1 v2 v3 v4 ls hl h; cases (fX8_many_28_z  t_mem v1 v2 v3 v4).symm.trans h
    | succ n ih =>
    intro v1 v2 v3 v4 ls hl h
    have h := (fX8_many_28_s  n t_mem v1 v2 v3 v4).symm.trans h
    refine lv_iload hx hb dX8_many_28 (lv_at hl 4 rfl) ?_
    refine lv_aload_n hx hb dX8_many_30 rfl (lv_at hl 0 rfl) ?_
    refine xa_get (C := RX8) (T := TX8) (N := 36) cx hG hP 0 rfl rfl uX8 0 (by decide) lf_X8_21 rfl dX8_many_31 ?_
    refine lv_iconst (v := 2) hx hb dX8_many_34 (by decide) ?_
    refine xa_iald (k := 2) cx hG hP 1 rfl (show ¬ ((2 : Int32) < 0 ∨ 27 ≤ (2 : Int32).toNatClampNeg) by decide) (by decide) dX8_many_35 ?_
    refine lv_icmp_ge (tgt := 71) hx hb dX8_many_36 (by decide) (fun c7 => ?_) (fun c7 => ?_)
    · have h := itp c7 h
      refine lv_iload_n hx hb dX8_many_71 rfl (lv_at hl 3 rfl) ?_
      exact hret _ _ _ dX8_many_72 (Option.some.inj h)
    · have h := itn c7 h
      refine lv_iload_n hx hb dX8_many_39 rfl (lv_at hl 3 rfl) ?_
      refine lv_aload_n hx hb dX8_many_40 rfl (lv_at hl 0 rfl) ?_
      refine xa_get (C := RX8) (T := TX8) (N := 36) cx hG hP 0 rfl rfl uX8 0 (by decide) lf_X8_21 rfl dX8_many_41 ?_
      refine lv_bipush (v := 19) hx hb dX8_many_44 (by decide) ?_
      refine lv_iload hx hb dX8_many_46 (lv_at hl 4 rfl) ?_
      refine lv_iadd hx hb dX8_many_48 ?_
      obtain ⟨hi8, h⟩ := chk_out h
      refine xa_iald cx hG hP 1 rfl hi8 rfl dX8_many_49 ?_
      refine lv_iconst (v := 4) hx hb dX8_many_50 (by decide) ?_
      refine lv_iload_n hx hb dX8_many_51 rfl (lv_at hl 1 rfl) ?_
      refine lv_imul hx hb dX8_many_52 ?_
      refine lv_iload_n hx hb dX8_many_53 rfl (lv_at hl 2 rfl) ?_
      refine lv_iadd hx hb dX8_many_54 ?_
      refine lv_icmp_ne (tgt := 62) hx hb dX8_many_55 (by decide) (fun c9 => ?_) (fun c9 => ?_)
      · have h := itn c9 h
        refine lv_iconst (v := 0) hx hb dX8_many_62 (by decide) ?_
        exact w63 _ ih v1 v2 v4 v3 0 _ (lv_sub hl [0, 1, 2, 4] rfl) h
      · have h := itp c9 h
        refine lv_iconst (v := 1) hx hb dX8_many_58 (by decide) ?_
        refine lv_goto (tgt := 63) hx hb dX8_many_59 (by decide) ?_
        exact w63 _ ih v1 v2 v4 v3 1 _ (lv_sub hl [0, 1, 2, 4] rfl) h
  unfold fX8_many at h
  refine lv_aload_n hx hb dX8_many_0 rfl (lv_at hl 0 rfl) ?_
  refine lv_iload_n hx hb dX8_many_1 rfl (lv_at hl 1 rfl) ?_
  obtain ⟨r1, hr2, h⟩ := bnd h
  refine ro_z (runV (As := [.int v1]) (rest := []) cx hl.1 (ctX8_isKind l g a_t t_acted t_taped t_faultKind t_faultPlace t_at t_begin t_token t_value t_bad t_wide t_lost t_det t_mask t_mode t_wanted t_orders t_foundAt t_foundBy t_unlikes t_mem v1 r1 hr2) kmX8_isKind kvX8_isKind lm_X8_193 ⟨rfl, rfl⟩ ⟨Nat.le_of_ble_eq_true rfl, Nat.le_of_ble_eq_true rfl⟩ (roV (q0 := 0) (ci := 7) hG (hP.sub [0, 1] rfl) hP rfl rfl) rfl rfl (Nat.le_of_ble_eq_true rfl) dX8_many_2 ⟨Nat.le_of_ble_eq_true rfl, Nat.le_of_ble_eq_true rfl⟩) (fun hz3 => ?_)
  refine lv_if_eq (tgt := 20) hx hb dX8_many_5 (by decide) (fun c4 => ?_) (fun c4 => ?_)
  · have h := itp c4 h
    refine lv_bipush (v := -2) hx hb dX8_many_20 (by decide) ?_
    exact hret _ _ _ dX8_many_22 (Option.some.inj h)
  · have h := itn c4 h
    refine lv_iload_n hx hb dX8_many_8 rfl (lv_at hl 2 rfl) ?_
    refine lv_i2l (v := v2.toInt64) hx hb dX8_many_9 rfl ?_
    refine lv_lconst (v := 0) hx hb dX8_many_10 (by decide) ?_
    refine lv_ldc2 (own := RX8) (v := 3) hx hb cx.2.2.2.1 (cx.2.2.2.2 _ cl_X8_204) dX8_many_11 ?_
    refine ro_z (runS (As := [.long v2.toInt64, .long (0), .long (3)]) (rest := []) cx hl.1 (ctX8_in l g v2.toInt64 (0) (3) (fX8_in v2.toInt64 0 3) rfl) kmX8_in ksX8_in lm_X8_83 ⟨rfl, rfl⟩ ⟨Nat.le_of_ble_eq_true rfl, Nat.le_of_ble_eq_true rfl⟩ (roS hG (hP.sub [] rfl)) rfl rfl (Nat.le_of_ble_eq_true rfl) dX8_many_14 ⟨Nat.le_of_ble_eq_true rfl, Nat.le_of_ble_eq_true rfl⟩) (fun hz5 => ?_)
    refine lv_if_ne (tgt := 23) hx hb dX8_many_17 (by decide) (fun c6 => ?_) (fun c6 => ?_)
    · have h := itn c6 h
      refine lv_iconst (v := 0) hx hb dX8_many_23 (by decide) ?_
      refine lv_istore_n (lv' := [(3, .int (0)), (0, .ref ((a_t 0))), (1, .int v1), (2, .int v2)]) hx hb dX8_many_24 rfl hl (by decide) rfl (fun ls hl => ?_)
      refine lv_iconst (v := 0) hx hb dX8_many_25 (by decide) ?_
      refine lv_istore (lv' := [(4, .int (0)), (3, .int (0)), (0, .ref ((a_t 0))), (1, .int v1), (2, .int v2)]) hx hb dX8_many_26 hl (by decide) rfl (fun ls hl => ?_)
      exact w28 FU v1 v2 0 0 _ (lv_sub hl [2, 3, 4, 1, 0] rfl) h
    · have h := itp c6 h
      refine lv_bipush (v := -2) hx hb dX8_many_20 (by decide) ?_
      exact hret _ _ _ dX8_many_22 (Option.some.inj h)
-- X8_laysPlate
theorem dX8_laysPlate_0 : decode cX8_laysPlate 0 = .ok (.aload_n 0, 1) := by decide +kernel
theorem dX8_laysPlate_1 : decode cX8_laysPlate 1 = .ok (.aload_n 0, 1) := by decide +kernel
theorem dX8_laysPlate_2 : decode cX8_laysPlate 2 = .ok (.getfield 21, 3) := by decide +kernel
theorem dX8_laysPlate_5 : decode cX8_laysPlate 5 = .ok (.iconst 2, 1) := by decide +kernel
theorem dX8_laysPlate_6 : decode cX8_laysPlate 6 = .ok (.iaload, 1) := by decide +kernel
theorem dX8_laysPlate_7 : decode cX8_laysPlate 7 = .ok (.putfield 206, 3) := by decide +kernel
theorem dX8_laysPlate_10 : decode cX8_laysPlate 10 = .ok (.aload_n 0, 1) := by decide +kernel
theorem dX8_laysPlate_11 : decode cX8_laysPlate 11 = .ok (.iconst 0, 1) := by decide +kernel
theorem dX8_laysPlate_12 : decode cX8_laysPlate 12 = .ok (.putfield 209, 3) := by decide +kernel
theorem dX8_laysPlate_15 : decode cX8_laysPlate 15 = .ok (.iconst 0, 1) := by decide +kernel
theorem dX8_laysPlate_16 : decode cX8_laysPlate 16 = .ok (.istore_n 1, 1) := by decide +kernel
theorem dX8_laysPlate_17 : decode cX8_laysPlate 17 = .ok (.iload_n 1, 1) := by decide +kernel
theorem dX8_laysPlate_18 : decode cX8_laysPlate 18 = .ok (.aload_n 0, 1) := by decide +kernel
theorem dX8_laysPlate_19 : decode cX8_laysPlate 19 = .ok (.getfield 206, 3) := by decide +kernel
theorem dX8_laysPlate_22 : decode cX8_laysPlate 22 = .ok (.if_icmp .ge 24, 3) := by decide +kernel
theorem dX8_laysPlate_25 : decode cX8_laysPlate 25 = .ok (.aload_n 0, 1) := by decide +kernel
theorem dX8_laysPlate_26 : decode cX8_laysPlate 26 = .ok (.getfield 57, 3) := by decide +kernel
theorem dX8_laysPlate_29 : decode cX8_laysPlate 29 = .ok (.iload_n 1, 1) := by decide +kernel
theorem dX8_laysPlate_30 : decode cX8_laysPlate 30 = .ok (.aload_n 0, 1) := by decide +kernel
theorem dX8_laysPlate_31 : decode cX8_laysPlate 31 = .ok (.getfield 21, 3) := by decide +kernel
theorem dX8_laysPlate_34 : decode cX8_laysPlate 34 = .ok (.bipush 19, 2) := by decide +kernel
theorem dX8_laysPlate_36 : decode cX8_laysPlate 36 = .ok (.iload_n 1, 1) := by decide +kernel
theorem dX8_laysPlate_37 : decode cX8_laysPlate 37 = .ok (.iadd, 1) := by decide +kernel
theorem dX8_laysPlate_38 : decode cX8_laysPlate 38 = .ok (.iaload, 1) := by decide +kernel
theorem dX8_laysPlate_39 : decode cX8_laysPlate 39 = .ok (.iastore, 1) := by decide +kernel
theorem dX8_laysPlate_40 : decode cX8_laysPlate 40 = .ok (.iinc 1 1, 3) := by decide +kernel
theorem dX8_laysPlate_43 : decode cX8_laysPlate 43 = .ok (.goto (-26), 3) := by decide +kernel
theorem dX8_laysPlate_46 : decode cX8_laysPlate 46 = .ok (.return_, 1) := by decide +kernel
noncomputable def fX8_laysPlate_17  : Nat → (Nat → Int32) → (Nat → Int32) → Int32 → Int32 → Int32 → Option ((Nat → Int32) × Int32 × Int32)
  | 0, _, _, _, _, _ => none
  | n + 1, t_mem, t_row, t_wide, t_lost, v1 => (if t_wide ≤ v1 then some (t_row, t_wide, t_lost) else chk 27 (19 + v1) (chk 8 v1 (fX8_laysPlate_17 n t_mem (upd t_row v1.toNatClampNeg (t_mem (19 + v1).toNatClampNeg)) t_wide t_lost (v1 + 1))))
theorem fX8_laysPlate_17_z  (t_mem : Nat → Int32) (t_row : Nat → Int32) (t_wide : Int32) (t_lost : Int32) (v1 : Int32) : fX8_laysPlate_17  0 t_mem t_row t_wide t_lost v1 = none := rfl
theorem fX8_laysPlate_17_s  (n : Nat) (t_mem : Nat → Int32) (t_row : Nat → Int32) (t_wide : Int32) (t_lost : Int32) (v1 : Int32) : fX8_laysPlate_17  (n + 1) t_mem t_row t_wide t_lost v1 = (if t_wide ≤ v1 then some (t_row, t_wide, t_lost) else chk 27 (19 + v1) (chk 8 v1 (fX8_laysPlate_17 n t_mem (upd t_row v1.toNatClampNeg (t_mem (19 + v1).toNatClampNeg)) t_wide t_lost (v1 + 1)))) := rfl
noncomputable def fX8_laysPlate  (t_mem : Nat → Int32) (t_row : Nat → Int32) (t_wide : Int32) (t_lost : Int32) : Option ((Nat → Int32) × Int32 × Int32) := fX8_laysPlate_17 FU t_mem t_row (t_mem 2) 0 0
set_option maxHeartbeats 4000000 in
set_option maxRecDepth 100000 in
theorem ctX8_laysPlate (l : Launch) (g : GT) (sz : Nat) (a_t : Nat → Nat) (t_acted : Int32) (t_taped : Int32) (t_faultKind : Int32) (t_faultPlace : Int32) (t_at : Int32) (t_begin : Int32) (t_token : Int32) (t_value : Int32) (t_bad : Int32) (t_wide : Int32) (t_lost : Int32) (t_det : Int64) (t_mask : Int32) (t_mode : Int32) (t_wanted : Int32) (t_orders : Int32) (t_foundAt : Int32) (t_foundBy : Int64) (t_unlikes : Int32) (t_mem : Nat → Int32) (t_row : Nat → Int32) (o_t_row : Nat → Int32) (o_t_wide : Int32) (o_t_lost : Int32) (h : fX8_laysPlate t_mem t_row t_wide t_lost = some (o_t_row, o_t_wide, o_t_lost)) : Met l yX8_laysPlate (Cond.code yX8_laysPlate cX8_laysPlate 2 none :: Tw) ⟨0, 0, 0, 0⟩ (va_Pc [.ref ((a_t 0))] (rwB g [((a_t 0), .inr (7, [.ref (a_t 1), .ref (a_t 2), .int t_acted, .ref (a_t 4), .ref (a_t 5), .ref (a_t 6), .ref (a_t 7), .ref (a_t 8), .ref (a_t 9), .int t_taped, .int t_faultKind, .int t_faultPlace, .int t_at, .int t_begin, .int t_token, .int t_value, .int t_bad, .ref (a_t 18), .ref (a_t 19), .ref (a_t 20), .int t_wide, .int t_lost, .ref (a_t 23), .long t_det, .ref (a_t 25), .int t_mask, .int t_mode, .int t_wanted, .int t_orders, .int t_foundAt, .long t_foundBy, .ref (a_t 32), .ref (a_t 33), .int t_unlikes, .ref (a_t 35), .ref (a_t 36)])), ((a_t 1), .inl (g.2.2.1 0, 27, .inl t_mem)), ((a_t 20), .inl (g.2.2.1 0, 8, .inl t_row))] sz)) (va_Qv (fun (_ : Nat → Nat) => True) (fun u => rwE g (va_A [((a_t 0), .inr (7, [.ref (a_t 1), .ref (a_t 2), .int t_acted, .ref (a_t 4), .ref (a_t 5), .ref (a_t 6), .ref (a_t 7), .ref (a_t 8), .ref (a_t 9), .int t_taped, .int t_faultKind, .int t_faultPlace, .int t_at, .int t_begin, .int t_token, .int t_value, .int t_bad, .ref (a_t 18), .ref (a_t 19), .ref (a_t 20), .int t_wide, .int t_lost, .ref (a_t 23), .long t_det, .ref (a_t 25), .int t_mask, .int t_mode, .int t_wanted, .int t_orders, .int t_foundAt, .long t_foundBy, .ref (a_t 32), .ref (a_t 33), .int t_unlikes, .ref (a_t 35), .ref (a_t 36)])), ((a_t 1), .inl (g.2.2.1 0, 27, .inl t_mem)), ((a_t 20), .inl (g.2.2.1 0, 8, .inl t_row))] sz) [((a_t 0), .inr (7, [.ref (a_t 1), .ref (a_t 2), .int t_acted, .ref (a_t 4), .ref (a_t 5), .ref (a_t 6), .ref (a_t 7), .ref (a_t 8), .ref (a_t 9), .int t_taped, .int t_faultKind, .int t_faultPlace, .int t_at, .int t_begin, .int t_token, .int t_value, .int t_bad, .ref (a_t 18), .ref (a_t 19), .ref (a_t 20), .int o_t_wide, .int o_t_lost, .ref (a_t 23), .long t_det, .ref (a_t 25), .int t_mask, .int t_mode, .int t_wanted, .int t_orders, .int t_foundAt, .long t_foundBy, .ref (a_t 32), .ref (a_t 33), .int t_unlikes, .ref (a_t 35), .ref (a_t 36)])), ((a_t 1), .inl (g.2.2.1 0, 27, .inl t_mem)), ((a_t 20), .inl (g.2.2.1 0, 8, .inl o_t_row))]) (va_A [((a_t 0), .inr (7, [.ref (a_t 1), .ref (a_t 2), .int t_acted, .ref (a_t 4), .ref (a_t 5), .ref (a_t 6), .ref (a_t 7), .ref (a_t 8), .ref (a_t 9), .int t_taped, .int t_faultKind, .int t_faultPlace, .int t_at, .int t_begin, .int t_token, .int t_value, .int t_bad, .ref (a_t 18), .ref (a_t 19), .ref (a_t 20), .int t_wide, .int t_lost, .ref (a_t 23), .long t_det, .ref (a_t 25), .int t_mask, .int t_mode, .int t_wanted, .int t_orders, .int t_foundAt, .long t_foundBy, .ref (a_t 32), .ref (a_t 33), .int t_unlikes, .ref (a_t 35), .ref (a_t 36)])), ((a_t 1), .inl (g.2.2.1 0, 27, .inl t_mem)), ((a_t 20), .inl (g.2.2.1 0, 8, .inl t_row))] sz)) 0 0 (va_A [((a_t 0), .inr (7, [.ref (a_t 1), .ref (a_t 2), .int t_acted, .ref (a_t 4), .ref (a_t 5), .ref (a_t 6), .ref (a_t 7), .ref (a_t 8), .ref (a_t 9), .int t_taped, .int t_faultKind, .int t_faultPlace, .int t_at, .int t_begin, .int t_token, .int t_value, .int t_bad, .ref (a_t 18), .ref (a_t 19), .ref (a_t 20), .int t_wide, .int t_lost, .ref (a_t 23), .long t_det, .ref (a_t 25), .int t_mask, .int t_mode, .int t_wanted, .int t_orders, .int t_foundAt, .long t_foundBy, .ref (a_t 32), .ref (a_t 33), .int t_unlikes, .ref (a_t 35), .ref (a_t 36)])), ((a_t 1), .inl (g.2.2.1 0, 27, .inl t_mem)), ((a_t 20), .inl (g.2.2.1 0, 8, .inl t_row))] sz) := by
  refine rw_metv (by decide) (Nat.le_of_ble_eq_true rfl) (lv0 := [(0, .ref ((a_t 0)))]) rfl ?_
  intro p e s m args below meth c ls Q A cx hret hG hAb hb0 hA hP hD hl
  have hx := cx.1
  have hb := cx.2.1
  have hG0 := hG
  have hGk : ∀ {H : Heap} {locs : List Loc}, va_S A s.heap H locs → GE g s H := fun hS => hG0.keptS hAb hS
  have hSb : ∀ {H : Heap} {locs : List Loc}, va_S A s.heap H locs → va_S (fun a => g.1 ≤ a) s.heap H locs := fun hS => ⟨hS.1, fun q h1 h2 => hS.2.1 q h1 (fun z => h2 (hAb q z)), fun l hl => hAb _ (hS.2.2 l hl)⟩
  have hS : va_S A s.heap s.heap [] := va_S.rf
  have hrt : ∀ (u : Nat → Nat) (pc : Nat) (ls : Array Slot) (x_t_row : Nat → Int32) (x_t_wide : Int32) (x_t_lost : Int32) (H : Heap) (locs : List Loc), decode cX8_laysPlate pc = .ok (.return_, 1) → some (x_t_row, x_t_wide, x_t_lost) = some (o_t_row, o_t_wide, o_t_lost) → va_P g.2.1 vwCl [((a_t 0), .inr (7, [.ref (a_t 1), .ref (a_t 2), .int t_acted, .ref (a_t 4), .ref (a_t 5), .ref (a_t 6), .ref (a_t 7), .ref (a_t 8), .ref (a_t 9), .int t_taped, .int t_faultKind, .int t_faultPlace, .int t_at, .int t_begin, .int t_token, .int t_value, .int t_bad, .ref (a_t 18), .ref (a_t 19), .ref (a_t 20), .int x_t_wide, .int x_t_lost, .ref (a_t 23), .long t_det, .ref (a_t 25), .int t_mask, .int t_mode, .int t_wanted, .int t_orders, .int t_foundAt, .long t_foundBy, .ref (a_t 32), .ref (a_t 33), .int t_unlikes, .ref (a_t 35), .ref (a_t 36)])), ((a_t 1), .inl (g.2.2.1 0, 27, .inl t_mem)), ((a_t 20), .inl (g.2.2.1 0, 8, .inl x_t_row))] H → va_D A [((a_t 0), .inr (7, [.ref (a_t 1), .ref (a_t 2), .int t_acted, .ref (a_t 4), .ref (a_t 5), .ref (a_t 6), .ref (a_t 7), .ref (a_t 8), .ref (a_t 9), .int t_taped, .int t_faultKind, .int t_faultPlace, .int t_at, .int t_begin, .int t_token, .int t_value, .int t_bad, .ref (a_t 18), .ref (a_t 19), .ref (a_t 20), .int x_t_wide, .int x_t_lost, .ref (a_t 23), .long t_det, .ref (a_t 25), .int t_mask, .int t_mode, .int t_wanted, .int t_orders, .int t_foundAt, .long t_foundBy, .ref (a_t 32), .ref (a_t 33), .int t_unlikes, .ref (a_t 35), .ref (a_t 36)])), ((a_t 1), .inl (g.2.2.1 0, 27, .inl t_mem)), ((a_t 20), .inl (g.2.2.1 0, 8, .inl x_t_row))] → va_S A s.heap H locs → W p l e ⟨0, 0, 0, 0⟩ s m args below meth c H locs 0 0 Q (F0 m pc ls []) := by
    intro u pc ls x_t_row x_t_wide x_t_lost H locs hd h hP hD hS
    cases h
    exact hret u _ _ _ _ hd hP hD hS
  have w17 : ∀ (n : Nat) (t_row : Nat → Int32) (t_wide : Int32) (t_lost : Int32) (v1 : Int32) (H : Heap) (locs : List Loc), va_P g.2.1 vwCl [((a_t 0), .inr (7, [.ref (a_t 1), .ref (a_t 2), .int t_acted, .ref (a_t 4), .ref (a_t 5), .ref (a_t 6), .ref (a_t 7), .ref (a_t 8), .ref (a_t 9), .int t_taped, .int t_faultKind, .int t_faultPlace, .int t_at, .int t_begin, .int t_token, .int t_value, .int t_bad, .ref (a_t 18), .ref (a_t 19), .ref (a_t 20), .int t_wide, .int t_lost, .ref (a_t 23), .long t_det, .ref (a_t 25), .int t_mask, .int t_mode, .int t_wanted, .int t_orders, .int t_foundAt, .long t_foundBy, .ref (a_t 32), .ref (a_t 33), .int t_unlikes, .ref (a_t 35), .ref (a_t 36)])), ((a_t 1), .inl (g.2.2.1 0, 27, .inl t_mem)), ((a_t 20), .inl (g.2.2.1 0, 8, .inl t_row))] H → va_D A [((a_t 0), .inr (7, [.ref (a_t 1), .ref (a_t 2), .int t_acted, .ref (a_t 4), .ref (a_t 5), .ref (a_t 6), .ref (a_t 7), .ref (a_t 8), .ref (a_t 9), .int t_taped, .int t_faultKind, .int t_faultPlace, .int t_at, .int t_begin, .int t_token, .int t_value, .int t_bad, .ref (a_t 18), .ref (a_t 19), .ref (a_t 20), .int t_wide, .int t_lost, .ref (a_t 23), .long t_det, .ref (a_t 25), .int t_mask, .int t_mode, .int t_wanted, .int t_orders, .int t_foundAt, .long t_foundBy, .ref (a_t 32), .ref (a_t 33), .int t_unlikes, .ref (a_t 35), .ref (a_t 36)])), ((a_t 1), .inl (g.2.2.1 0, 27, .inl t_mem)), ((a_t 20), .inl (g.2.2.1 0, 8, .inl t_row))] → va_S A s.heap H locs → ∀ (ls : Array Slot), lv_has ls 2 [(0, .ref ((a_t 0))), (1, .int v1)] → fX8_laysPlate_17  n t_mem t_row t_wide t_lost v1 = some (o_t_row, o_t_wide, o_t_lost) → W p l e ⟨0, 0, 0, 0⟩ s m args below meth c H locs 0 0 Q (F0 m 17 ls []) := by
    intro n
    induction n with
    | zero => intro t_row t_wide t_lost v1 H locs hP hD hS ls hl h; cases (fX8_laysPlate_17_z  t_mem t_row t_wide t_lost v1).symm.trans h
    | succ n ih =>
    intro t_row t_wide t_lost v1 H locs hP hD hS ls hl h
    have h := (fX8_laysPlate_17_s  n t_mem t_row t_wide t_lost v1).symm.trans h
    have hG := hGk hS
    refine lv_iload_n hx hb dX8_laysPlate_17 rfl (lv_at hl 1 rfl) ?_
    refine lv_aload_n hx hb dX8_laysPlate_18 rfl (lv_at hl 0 rfl) ?_
    refine xa_get (C := RX8) (T := TX8) (N := 36) cx hG hP 0 rfl rfl uX8 20 (by decide) lf_X8_206 rfl dX8_laysPlate_19 ?_
    refine lv_icmp_ge (tgt := 46) hx hb dX8_laysPlate_22 (by decide) (fun c1 => ?_) (fun c1 => ?_)
    · have h := itp c1 h
      exact hrt (fun _ => 0) _ _ t_row t_wide t_lost _ _ dX8_laysPlate_46 h (hP.sub [0, 1, 2] rfl) (hD.sub [0, 1, 2] (by decide) rfl) hS
    · have h := itn c1 h
      refine lv_aload_n hx hb dX8_laysPlate_25 rfl (lv_at hl 0 rfl) ?_
      refine xa_get (C := RX8) (T := TX8) (N := 36) cx hG hP 0 rfl rfl uX8 19 (by decide) lf_X8_57 rfl dX8_laysPlate_26 ?_
      refine lv_iload_n hx hb dX8_laysPlate_29 rfl (lv_at hl 1 rfl) ?_
      refine lv_aload_n hx hb dX8_laysPlate_30 rfl (lv_at hl 0 rfl) ?_
      refine xa_get (C := RX8) (T := TX8) (N := 36) cx hG hP 0 rfl rfl uX8 0 (by decide) lf_X8_21 rfl dX8_laysPlate_31 ?_
      refine lv_bipush (v := 19) hx hb dX8_laysPlate_34 (by decide) ?_
      refine lv_iload_n hx hb dX8_laysPlate_36 rfl (lv_at hl 1 rfl) ?_
      refine lv_iadd hx hb dX8_laysPlate_37 ?_
      obtain ⟨hi2, h⟩ := chk_out h
      refine xa_iald cx hG hP 1 rfl hi2 rfl dX8_laysPlate_38 ?_
      obtain ⟨hi3, h⟩ := chk_out h
      refine xw_iast (ws' := [((a_t 0), .inr (7, [.ref (a_t 1), .ref (a_t 2), .int t_acted, .ref (a_t 4), .ref (a_t 5), .ref (a_t 6), .ref (a_t 7), .ref (a_t 8), .ref (a_t 9), .int t_taped, .int t_faultKind, .int t_faultPlace, .int t_at, .int t_begin, .int t_token, .int t_value, .int t_bad, .ref (a_t 18), .ref (a_t 19), .ref (a_t 20), .int t_wide, .int t_lost, .ref (a_t 23), .long t_det, .ref (a_t 25), .int t_mask, .int t_mode, .int t_wanted, .int t_orders, .int t_foundAt, .long t_foundBy, .ref (a_t 32), .ref (a_t 33), .int t_unlikes, .ref (a_t 35), .ref (a_t 36)])), ((a_t 1), .inl (g.2.2.1 0, 27, .inl t_mem)), ((a_t 20), .inl (g.2.2.1 0, 8, .inl (upd t_row v1.toNatClampNeg (t_mem (19 + v1).toNatClampNeg))))]) (k := v1.toNatClampNeg) cx hG hP hD hS 2 rfl hi3 rfl rfl dX8_laysPlate_39 (fun H locs hP hD hS => ?_)
      have hG := hGk hS
      refine lv_iinc (v := v1 + 1) (lv' := [(1, .int (v1 + 1)), (0, .ref ((a_t 0)))]) hx hb dX8_laysPlate_40 hl (k := 1) rfl rfl (by decide) rfl (fun ls hl => ?_)
      refine lv_goto (tgt := 17) hx hb dX8_laysPlate_43 (by decide) ?_
      exact ih (upd t_row v1.toNatClampNeg (t_mem (19 + v1).toNatClampNeg)) t_wide t_lost (v1 + 1) _ _ hP hD hS _ (lv_sub hl [1, 0] rfl) h
  unfold fX8_laysPlate at h
  refine lv_aload_n hx hb dX8_laysPlate_0 rfl (lv_at hl 0 rfl) ?_
  refine lv_aload_n hx hb dX8_laysPlate_1 rfl (lv_at hl 0 rfl) ?_
  refine xa_get (C := RX8) (T := TX8) (N := 36) cx hG hP 0 rfl rfl uX8 0 (by decide) lf_X8_21 rfl dX8_laysPlate_2 ?_
  refine lv_iconst (v := 2) hx hb dX8_laysPlate_5 (by decide) ?_
  refine xa_iald (k := 2) cx hG hP 1 rfl (show ¬ ((2 : Int32) < 0 ∨ 27 ≤ (2 : Int32).toNatClampNeg) by decide) (by decide) dX8_laysPlate_6 ?_
  refine xw_put (C := RX8) (T := TX8) (N := 36) (ty := .int) (v := .int (t_mem 2)) (ws' := [((a_t 0), .inr (7, [.ref (a_t 1), .ref (a_t 2), .int t_acted, .ref (a_t 4), .ref (a_t 5), .ref (a_t 6), .ref (a_t 7), .ref (a_t 8), .ref (a_t 9), .int t_taped, .int t_faultKind, .int t_faultPlace, .int t_at, .int t_begin, .int t_token, .int t_value, .int t_bad, .ref (a_t 18), .ref (a_t 19), .ref (a_t 20), .int (t_mem 2), .int t_lost, .ref (a_t 23), .long t_det, .ref (a_t 25), .int t_mask, .int t_mode, .int t_wanted, .int t_orders, .int t_foundAt, .long t_foundBy, .ref (a_t 32), .ref (a_t 33), .int t_unlikes, .ref (a_t 35), .ref (a_t 36)])), ((a_t 1), .inl (g.2.2.1 0, 27, .inl t_mem)), ((a_t 20), .inl (g.2.2.1 0, 8, .inl t_row))]) cx hG hP hD hS 0 rfl rfl uX8 tyX8 tyX8_ok nmX8 20 (by decide) lf_X8_206 rfl (by decide +kernel) rfl rfl (Nat.le_of_ble_eq_true rfl) rfl dX8_laysPlate_7 (fun H locs hP hD hS => ?_)
  have hG := hGk hS
  refine lv_aload_n hx hb dX8_laysPlate_10 rfl (lv_at hl 0 rfl) ?_
  refine lv_iconst (v := 0) hx hb dX8_laysPlate_11 (by decide) ?_
  refine xw_put (C := RX8) (T := TX8) (N := 36) (ty := .int) (v := .int (0)) (ws' := [((a_t 0), .inr (7, [.ref (a_t 1), .ref (a_t 2), .int t_acted, .ref (a_t 4), .ref (a_t 5), .ref (a_t 6), .ref (a_t 7), .ref (a_t 8), .ref (a_t 9), .int t_taped, .int t_faultKind, .int t_faultPlace, .int t_at, .int t_begin, .int t_token, .int t_value, .int t_bad, .ref (a_t 18), .ref (a_t 19), .ref (a_t 20), .int (t_mem 2), .int 0, .ref (a_t 23), .long t_det, .ref (a_t 25), .int t_mask, .int t_mode, .int t_wanted, .int t_orders, .int t_foundAt, .long t_foundBy, .ref (a_t 32), .ref (a_t 33), .int t_unlikes, .ref (a_t 35), .ref (a_t 36)])), ((a_t 1), .inl (g.2.2.1 0, 27, .inl t_mem)), ((a_t 20), .inl (g.2.2.1 0, 8, .inl t_row))]) cx hG hP hD hS 0 rfl rfl uX8 tyX8 tyX8_ok nmX8 21 (by decide) lf_X8_209 rfl (by decide +kernel) rfl rfl (Nat.le_of_ble_eq_true rfl) rfl dX8_laysPlate_12 (fun H locs hP hD hS => ?_)
  have hG := hGk hS
  refine lv_iconst (v := 0) hx hb dX8_laysPlate_15 (by decide) ?_
  refine lv_istore_n (lv' := [(1, .int (0)), (0, .ref ((a_t 0)))]) hx hb dX8_laysPlate_16 rfl hl (by decide) rfl (fun ls hl => ?_)
  exact w17 FU t_row (t_mem 2) 0 0 _ _ hP hD hS _ (lv_sub hl [1, 0] rfl) h
-- X8_laysSet
theorem dX8_laysSet_0 : decode cX8_laysSet 0 = .ok (.aload_n 0, 1) := by decide +kernel
theorem dX8_laysSet_1 : decode cX8_laysSet 1 = .ok (.iconst 0, 1) := by decide +kernel
theorem dX8_laysSet_2 : decode cX8_laysSet 2 = .ok (.putfield 206, 3) := by decide +kernel
theorem dX8_laysSet_5 : decode cX8_laysSet 5 = .ok (.aload_n 0, 1) := by decide +kernel
theorem dX8_laysSet_6 : decode cX8_laysSet 6 = .ok (.iconst 0, 1) := by decide +kernel
theorem dX8_laysSet_7 : decode cX8_laysSet 7 = .ok (.putfield 209, 3) := by decide +kernel
theorem dX8_laysSet_10 : decode cX8_laysSet 10 = .ok (.iconst 0, 1) := by decide +kernel
theorem dX8_laysSet_11 : decode cX8_laysSet 11 = .ok (.istore_n 2, 1) := by decide +kernel
theorem dX8_laysSet_12 : decode cX8_laysSet 12 = .ok (.iload_n 2, 1) := by decide +kernel
theorem dX8_laysSet_13 : decode cX8_laysSet 13 = .ok (.aload_n 0, 1) := by decide +kernel
theorem dX8_laysSet_14 : decode cX8_laysSet 14 = .ok (.getfield 21, 3) := by decide +kernel
theorem dX8_laysSet_17 : decode cX8_laysSet 17 = .ok (.iconst 2, 1) := by decide +kernel
theorem dX8_laysSet_18 : decode cX8_laysSet 18 = .ok (.iaload, 1) := by decide +kernel
theorem dX8_laysSet_19 : decode cX8_laysSet 19 = .ok (.if_icmp .ge 45, 3) := by decide +kernel
theorem dX8_laysSet_22 : decode cX8_laysSet 22 = .ok (.iload_n 1, 1) := by decide +kernel
theorem dX8_laysSet_23 : decode cX8_laysSet 23 = .ok (.iload_n 2, 1) := by decide +kernel
theorem dX8_laysSet_24 : decode cX8_laysSet 24 = .ok (.invokestatic 212, 3) := by decide +kernel
theorem dX8_laysSet_27 : decode cX8_laysSet 27 = .ok (.ifCond .eq 31, 3) := by decide +kernel
theorem dX8_laysSet_30 : decode cX8_laysSet 30 = .ok (.aload_n 0, 1) := by decide +kernel
theorem dX8_laysSet_31 : decode cX8_laysSet 31 = .ok (.getfield 57, 3) := by decide +kernel
theorem dX8_laysSet_34 : decode cX8_laysSet 34 = .ok (.aload_n 0, 1) := by decide +kernel
theorem dX8_laysSet_35 : decode cX8_laysSet 35 = .ok (.getfield 206, 3) := by decide +kernel
theorem dX8_laysSet_38 : decode cX8_laysSet 38 = .ok (.aload_n 0, 1) := by decide +kernel
theorem dX8_laysSet_39 : decode cX8_laysSet 39 = .ok (.getfield 21, 3) := by decide +kernel
theorem dX8_laysSet_42 : decode cX8_laysSet 42 = .ok (.bipush 19, 2) := by decide +kernel
theorem dX8_laysSet_44 : decode cX8_laysSet 44 = .ok (.iload_n 2, 1) := by decide +kernel
theorem dX8_laysSet_45 : decode cX8_laysSet 45 = .ok (.iadd, 1) := by decide +kernel
theorem dX8_laysSet_46 : decode cX8_laysSet 46 = .ok (.iaload, 1) := by decide +kernel
theorem dX8_laysSet_47 : decode cX8_laysSet 47 = .ok (.iastore, 1) := by decide +kernel
theorem dX8_laysSet_48 : decode cX8_laysSet 48 = .ok (.aload_n 0, 1) := by decide +kernel
theorem dX8_laysSet_49 : decode cX8_laysSet 49 = .ok (.dup, 1) := by decide +kernel
theorem dX8_laysSet_50 : decode cX8_laysSet 50 = .ok (.getfield 206, 3) := by decide +kernel
theorem dX8_laysSet_53 : decode cX8_laysSet 53 = .ok (.iconst 1, 1) := by decide +kernel
theorem dX8_laysSet_54 : decode cX8_laysSet 54 = .ok (.iadd, 1) := by decide +kernel
theorem dX8_laysSet_55 : decode cX8_laysSet 55 = .ok (.putfield 206, 3) := by decide +kernel
theorem dX8_laysSet_58 : decode cX8_laysSet 58 = .ok (.iinc 2 1, 3) := by decide +kernel
theorem dX8_laysSet_61 : decode cX8_laysSet 61 = .ok (.goto (-49), 3) := by decide +kernel
theorem dX8_laysSet_64 : decode cX8_laysSet 64 = .ok (.return_, 1) := by decide +kernel
noncomputable def fX8_laysSet_58 (k12 : (Nat → Int32) → (Nat → Int32) → Int32 → Int32 → Int32 → Int32 → Option ((Nat → Int32) × Int32 × Int32)) (t_mem : Nat → Int32) (t_row : Nat → Int32) (t_wide : Int32) (t_lost : Int32) (v1 : Int32) (v2 : Int32) : Option ((Nat → Int32) × Int32 × Int32) := k12 t_mem t_row t_wide t_lost v1 (v2 + 1)
noncomputable def fX8_laysSet_12  : Nat → (Nat → Int32) → (Nat → Int32) → Int32 → Int32 → Int32 → Int32 → Option ((Nat → Int32) × Int32 × Int32)
  | 0, _, _, _, _, _, _ => none
  | n + 1, t_mem, t_row, t_wide, t_lost, v1, v2 => (if (t_mem 2) ≤ v2 then some (t_row, t_wide, t_lost) else (if (fX8_has v1 v2) = 0 then fX8_laysSet_58 (fX8_laysSet_12 n) t_mem t_row t_wide t_lost v1 v2 else chk 27 (19 + v2) (chk 8 t_wide (fX8_laysSet_58 (fX8_laysSet_12 n) t_mem (upd t_row t_wide.toNatClampNeg (t_mem (19 + v2).toNatClampNeg)) (t_wide + 1) t_lost v1 v2))))
theorem fX8_laysSet_12_z  (t_mem : Nat → Int32) (t_row : Nat → Int32) (t_wide : Int32) (t_lost : Int32) (v1 : Int32) (v2 : Int32) : fX8_laysSet_12  0 t_mem t_row t_wide t_lost v1 v2 = none := rfl
theorem fX8_laysSet_12_s  (n : Nat) (t_mem : Nat → Int32) (t_row : Nat → Int32) (t_wide : Int32) (t_lost : Int32) (v1 : Int32) (v2 : Int32) : fX8_laysSet_12  (n + 1) t_mem t_row t_wide t_lost v1 v2 = (if (t_mem 2) ≤ v2 then some (t_row, t_wide, t_lost) else (if (fX8_has v1 v2) = 0 then fX8_laysSet_58 (fX8_laysSet_12 n) t_mem t_row t_wide t_lost v1 v2 else chk 27 (19 + v2) (chk 8 t_wide (fX8_laysSet_58 (fX8_laysSet_12 n) t_mem (upd t_row t_wide.toNatClampNeg (t_mem (19 + v2).toNatClampNeg)) (t_wide + 1) t_lost v1 v2)))) := rfl
noncomputable def fX8_laysSet  (t_mem : Nat → Int32) (t_row : Nat → Int32) (t_wide : Int32) (t_lost : Int32) (v1 : Int32) : Option ((Nat → Int32) × Int32 × Int32) := fX8_laysSet_12 FU t_mem t_row 0 0 v1 0
set_option maxHeartbeats 4000000 in
set_option maxRecDepth 100000 in
theorem ctX8_laysSet (l : Launch) (g : GT) (sz : Nat) (a_t : Nat → Nat) (t_acted : Int32) (t_taped : Int32) (t_faultKind : Int32) (t_faultPlace : Int32) (t_at : Int32) (t_begin : Int32) (t_token : Int32) (t_value : Int32) (t_bad : Int32) (t_wide : Int32) (t_lost : Int32) (t_det : Int64) (t_mask : Int32) (t_mode : Int32) (t_wanted : Int32) (t_orders : Int32) (t_foundAt : Int32) (t_foundBy : Int64) (t_unlikes : Int32) (t_mem : Nat → Int32) (t_row : Nat → Int32) (v1 : Int32) (o_t_row : Nat → Int32) (o_t_wide : Int32) (o_t_lost : Int32) (h : fX8_laysSet t_mem t_row t_wide t_lost v1 = some (o_t_row, o_t_wide, o_t_lost)) : Met l yX8_laysSet (Cond.code yX8_laysSet cX8_laysSet 3 none :: Tw) ⟨1, 0, 0, 21⟩ (va_Pc [.ref ((a_t 0)), .int v1] (rwB g [((a_t 0), .inr (7, [.ref (a_t 1), .ref (a_t 2), .int t_acted, .ref (a_t 4), .ref (a_t 5), .ref (a_t 6), .ref (a_t 7), .ref (a_t 8), .ref (a_t 9), .int t_taped, .int t_faultKind, .int t_faultPlace, .int t_at, .int t_begin, .int t_token, .int t_value, .int t_bad, .ref (a_t 18), .ref (a_t 19), .ref (a_t 20), .int t_wide, .int t_lost, .ref (a_t 23), .long t_det, .ref (a_t 25), .int t_mask, .int t_mode, .int t_wanted, .int t_orders, .int t_foundAt, .long t_foundBy, .ref (a_t 32), .ref (a_t 33), .int t_unlikes, .ref (a_t 35), .ref (a_t 36)])), ((a_t 1), .inl (g.2.2.1 0, 27, .inl t_mem)), ((a_t 20), .inl (g.2.2.1 0, 8, .inl t_row))] sz)) (va_Qv (fun (_ : Nat → Nat) => True) (fun u => rwE g (va_A [((a_t 0), .inr (7, [.ref (a_t 1), .ref (a_t 2), .int t_acted, .ref (a_t 4), .ref (a_t 5), .ref (a_t 6), .ref (a_t 7), .ref (a_t 8), .ref (a_t 9), .int t_taped, .int t_faultKind, .int t_faultPlace, .int t_at, .int t_begin, .int t_token, .int t_value, .int t_bad, .ref (a_t 18), .ref (a_t 19), .ref (a_t 20), .int t_wide, .int t_lost, .ref (a_t 23), .long t_det, .ref (a_t 25), .int t_mask, .int t_mode, .int t_wanted, .int t_orders, .int t_foundAt, .long t_foundBy, .ref (a_t 32), .ref (a_t 33), .int t_unlikes, .ref (a_t 35), .ref (a_t 36)])), ((a_t 1), .inl (g.2.2.1 0, 27, .inl t_mem)), ((a_t 20), .inl (g.2.2.1 0, 8, .inl t_row))] sz) [((a_t 0), .inr (7, [.ref (a_t 1), .ref (a_t 2), .int t_acted, .ref (a_t 4), .ref (a_t 5), .ref (a_t 6), .ref (a_t 7), .ref (a_t 8), .ref (a_t 9), .int t_taped, .int t_faultKind, .int t_faultPlace, .int t_at, .int t_begin, .int t_token, .int t_value, .int t_bad, .ref (a_t 18), .ref (a_t 19), .ref (a_t 20), .int o_t_wide, .int o_t_lost, .ref (a_t 23), .long t_det, .ref (a_t 25), .int t_mask, .int t_mode, .int t_wanted, .int t_orders, .int t_foundAt, .long t_foundBy, .ref (a_t 32), .ref (a_t 33), .int t_unlikes, .ref (a_t 35), .ref (a_t 36)])), ((a_t 1), .inl (g.2.2.1 0, 27, .inl t_mem)), ((a_t 20), .inl (g.2.2.1 0, 8, .inl o_t_row))]) (va_A [((a_t 0), .inr (7, [.ref (a_t 1), .ref (a_t 2), .int t_acted, .ref (a_t 4), .ref (a_t 5), .ref (a_t 6), .ref (a_t 7), .ref (a_t 8), .ref (a_t 9), .int t_taped, .int t_faultKind, .int t_faultPlace, .int t_at, .int t_begin, .int t_token, .int t_value, .int t_bad, .ref (a_t 18), .ref (a_t 19), .ref (a_t 20), .int t_wide, .int t_lost, .ref (a_t 23), .long t_det, .ref (a_t 25), .int t_mask, .int t_mode, .int t_wanted, .int t_orders, .int t_foundAt, .long t_foundBy, .ref (a_t 32), .ref (a_t 33), .int t_unlikes, .ref (a_t 35), .ref (a_t 36)])), ((a_t 1), .inl (g.2.2.1 0, 27, .inl t_mem)), ((a_t 20), .inl (g.2.2.1 0, 8, .inl t_row))] sz)) 0 0 (va_A [((a_t 0), .inr (7, [.ref (a_t 1), .ref (a_t 2), .int t_acted, .ref (a_t 4), .ref (a_t 5), .ref (a_t 6), .ref (a_t 7), .ref (a_t 8), .ref (a_t 9), .int t_taped, .int t_faultKind, .int t_faultPlace, .int t_at, .int t_begin, .int t_token, .int t_value, .int t_bad, .ref (a_t 18), .ref (a_t 19), .ref (a_t 20), .int t_wide, .int t_lost, .ref (a_t 23), .long t_det, .ref (a_t 25), .int t_mask, .int t_mode, .int t_wanted, .int t_orders, .int t_foundAt, .long t_foundBy, .ref (a_t 32), .ref (a_t 33), .int t_unlikes, .ref (a_t 35), .ref (a_t 36)])), ((a_t 1), .inl (g.2.2.1 0, 27, .inl t_mem)), ((a_t 20), .inl (g.2.2.1 0, 8, .inl t_row))] sz) := by
  refine rw_metv (by decide) (Nat.le_of_ble_eq_true rfl) (lv0 := [(0, .ref ((a_t 0))), (1, .int v1)]) rfl ?_
  intro p e s m args below meth c ls Q A cx hret hG hAb hb0 hA hP hD hl
  have hx := cx.1
  have hb := cx.2.1
  have hG0 := hG
  have hGk : ∀ {H : Heap} {locs : List Loc}, va_S A s.heap H locs → GE g s H := fun hS => hG0.keptS hAb hS
  have hSb : ∀ {H : Heap} {locs : List Loc}, va_S A s.heap H locs → va_S (fun a => g.1 ≤ a) s.heap H locs := fun hS => ⟨hS.1, fun q h1 h2 => hS.2.1 q h1 (fun z => h2 (hAb q z)), fun l hl => hAb _ (hS.2.2 l hl)⟩
  have hS : va_S A s.heap s.heap [] := va_S.rf
  have hrt : ∀ (u : Nat → Nat) (pc : Nat) (ls : Array Slot) (x_t_row : Nat → Int32) (x_t_wide : Int32) (x_t_lost : Int32) (H : Heap) (locs : List Loc), decode cX8_laysSet pc = .ok (.return_, 1) → some (x_t_row, x_t_wide, x_t_lost) = some (o_t_row, o_t_wide, o_t_lost) → va_P g.2.1 vwCl [((a_t 0), .inr (7, [.ref (a_t 1), .ref (a_t 2), .int t_acted, .ref (a_t 4), .ref (a_t 5), .ref (a_t 6), .ref (a_t 7), .ref (a_t 8), .ref (a_t 9), .int t_taped, .int t_faultKind, .int t_faultPlace, .int t_at, .int t_begin, .int t_token, .int t_value, .int t_bad, .ref (a_t 18), .ref (a_t 19), .ref (a_t 20), .int x_t_wide, .int x_t_lost, .ref (a_t 23), .long t_det, .ref (a_t 25), .int t_mask, .int t_mode, .int t_wanted, .int t_orders, .int t_foundAt, .long t_foundBy, .ref (a_t 32), .ref (a_t 33), .int t_unlikes, .ref (a_t 35), .ref (a_t 36)])), ((a_t 1), .inl (g.2.2.1 0, 27, .inl t_mem)), ((a_t 20), .inl (g.2.2.1 0, 8, .inl x_t_row))] H → va_D A [((a_t 0), .inr (7, [.ref (a_t 1), .ref (a_t 2), .int t_acted, .ref (a_t 4), .ref (a_t 5), .ref (a_t 6), .ref (a_t 7), .ref (a_t 8), .ref (a_t 9), .int t_taped, .int t_faultKind, .int t_faultPlace, .int t_at, .int t_begin, .int t_token, .int t_value, .int t_bad, .ref (a_t 18), .ref (a_t 19), .ref (a_t 20), .int x_t_wide, .int x_t_lost, .ref (a_t 23), .long t_det, .ref (a_t 25), .int t_mask, .int t_mode, .int t_wanted, .int t_orders, .int t_foundAt, .long t_foundBy, .ref (a_t 32), .ref (a_t 33), .int t_unlikes, .ref (a_t 35), .ref (a_t 36)])), ((a_t 1), .inl (g.2.2.1 0, 27, .inl t_mem)), ((a_t 20), .inl (g.2.2.1 0, 8, .inl x_t_row))] → va_S A s.heap H locs → W p l e ⟨1, 0, 0, 21⟩ s m args below meth c H locs 0 0 Q (F0 m pc ls []) := by
    intro u pc ls x_t_row x_t_wide x_t_lost H locs hd h hP hD hS
    cases h
    exact hret u _ _ _ _ hd hP hD hS
  have w58 : ∀ (k12 : (Nat → Int32) → (Nat → Int32) → Int32 → Int32 → Int32 → Int32 → Option ((Nat → Int32) × Int32 × Int32)) (hk12 : ∀ (t_row : Nat → Int32) (t_wide : Int32) (t_lost : Int32) (v1 : Int32) (v2 : Int32) (H : Heap) (locs : List Loc), va_P g.2.1 vwCl [((a_t 0), .inr (7, [.ref (a_t 1), .ref (a_t 2), .int t_acted, .ref (a_t 4), .ref (a_t 5), .ref (a_t 6), .ref (a_t 7), .ref (a_t 8), .ref (a_t 9), .int t_taped, .int t_faultKind, .int t_faultPlace, .int t_at, .int t_begin, .int t_token, .int t_value, .int t_bad, .ref (a_t 18), .ref (a_t 19), .ref (a_t 20), .int t_wide, .int t_lost, .ref (a_t 23), .long t_det, .ref (a_t 25), .int t_mask, .int t_mode, .int t_wanted, .int t_orders, .int t_foundAt, .long t_foundBy, .ref (a_t 32), .ref (a_t 33), .int t_unlikes, .ref (a_t 35), .ref (a_t 36)])), ((a_t 1), .inl (g.2.2.1 0, 27, .inl t_mem)), ((a_t 20), .inl (g.2.2.1 0, 8, .inl t_row))] H → va_D A [((a_t 0), .inr (7, [.ref (a_t 1), .ref (a_t 2), .int t_acted, .ref (a_t 4), .ref (a_t 5), .ref (a_t 6), .ref (a_t 7), .ref (a_t 8), .ref (a_t 9), .int t_taped, .int t_faultKind, .int t_faultPlace, .int t_at, .int t_begin, .int t_token, .int t_value, .int t_bad, .ref (a_t 18), .ref (a_t 19), .ref (a_t 20), .int t_wide, .int t_lost, .ref (a_t 23), .long t_det, .ref (a_t 25), .int t_mask, .int t_mode, .int t_wanted, .int t_orders, .int t_foundAt, .long t_foundBy, .ref (a_t 32), .ref (a_t 33), .int t_unlikes, .ref (a_t 35), .ref (a_t 36)])), ((a_t 1), .inl (g.2.2.1 0, 27, .inl t_mem)), ((a_t 20), .inl (g.2.2.1 0, 8, .inl t_row))] → va_S A s.heap H locs → ∀ (ls : Array Slot), lv_has ls 3 [(0, .ref ((a_t 0))), (1, .int v1), (2, .int v2)] → k12 t_mem t_row t_wide t_lost v1 v2 = some (o_t_row, o_t_wide, o_t_lost) → W p l e ⟨1, 0, 0, 21⟩ s m args below meth c H locs 0 0 Q (F0 m 12 ls [])) (t_row : Nat → Int32) (t_wide : Int32) (t_lost : Int32) (v1 : Int32) (v2 : Int32) (H : Heap) (locs : List Loc), va_P g.2.1 vwCl [((a_t 0), .inr (7, [.ref (a_t 1), .ref (a_t 2), .int t_acted, .ref (a_t 4), .ref (a_t 5), .ref (a_t 6), .ref (a_t 7), .ref (a_t 8), .ref (a_t 9), .int t_taped, .int t_faultKind, .int t_faultPlace, .int t_at, .int t_begin, .int t_token, .int t_value, .int t_bad, .ref (a_t 18), .ref (a_t 19), .ref (a_t 20), .int t_wide, .int t_lost, .ref (a_t 23), .long t_det, .ref (a_t 25), .int t_mask, .int t_mode, .int t_wanted, .int t_orders, .int t_foundAt, .long t_foundBy, .ref (a_t 32), .ref (a_t 33), .int t_unlikes, .ref (a_t 35), .ref (a_t 36)])), ((a_t 1), .inl (g.2.2.1 0, 27, .inl t_mem)), ((a_t 20), .inl (g.2.2.1 0, 8, .inl t_row))] H → va_D A [((a_t 0), .inr (7, [.ref (a_t 1), .ref (a_t 2), .int t_acted, .ref (a_t 4), .ref (a_t 5), .ref (a_t 6), .ref (a_t 7), .ref (a_t 8), .ref (a_t 9), .int t_taped, .int t_faultKind, .int t_faultPlace, .int t_at, .int t_begin, .int t_token, .int t_value, .int t_bad, .ref (a_t 18), .ref (a_t 19), .ref (a_t 20), .int t_wide, .int t_lost, .ref (a_t 23), .long t_det, .ref (a_t 25), .int t_mask, .int t_mode, .int t_wanted, .int t_orders, .int t_foundAt, .long t_foundBy, .ref (a_t 32), .ref (a_t 33), .int t_unlikes, .ref (a_t 35), .ref (a_t 36)])), ((a_t 1), .inl (g.2.2.1 0, 27, .inl t_mem)), ((a_t 20), .inl (g.2.2.1 0, 8, .inl t_row))] → va_S A s.heap H locs → ∀ (ls : Array Slot), lv_has ls 3 [(0, .ref ((a_t 0))), (1, .int v1), (2, .int v2)] → fX8_laysSet_58 k12 t_mem t_row t_wide t_lost v1 v2 = some (o_t_row, o_t_wide, o_t_lost) → W p l e ⟨1, 0, 0, 21⟩ s m args below meth c H locs 0 0 Q (F0 m 58 ls []) := by
    intro k12 hk12 t_row t_wide t_lost v1 v2 H locs hP hD hS ls hl h
    unfold fX8_laysSet_58 at h
    have hG := hGk hS
    refine lv_iinc (v := v2 + 1) (lv' := [(2, .int (v2 + 1)), (0, .ref ((a_t 0))), (1, .int v1)]) hx hb dX8_laysSet_58 hl (k := 2) rfl rfl (by decide) rfl (fun ls hl => ?_)
    refine lv_goto (tgt := 12) hx hb dX8_laysSet_61 (by decide) ?_
    exact hk12 t_row t_wide t_lost v1 (v2 + 1) _ _ hP hD hS _ (lv_sub hl [1, 2, 0] rfl) h
  have w12 : ∀ (n : Nat) (t_row : Nat → Int32) (t_wide : Int32) (t_lost : Int32) (v1 : Int32) (v2 : Int32) (H : Heap) (locs : List Loc), va_P g.2.1 vwCl [((a_t 0), .inr (7, [.ref (a_t 1), .ref (a_t 2), .int t_acted, .ref (a_t 4), .ref (a_t 5), .ref (a_t 6), .ref (a_t 7), .ref (a_t 8), .ref (a_t 9), .int t_taped, .int t_faultKind, .int t_faultPlace, .int t_at, .int t_begin, .int t_token, .int t_value, .int t_bad, .ref (a_t 18), .ref (a_t 19), .ref (a_t 20), .int t_wide, .int t_lost, .ref (a_t 23), .long t_det, .ref (a_t 25), .int t_mask, .int t_mode, .int t_wanted, .int t_orders, .int t_foundAt, .long t_foundBy, .ref (a_t 32), .ref (a_t 33), .int t_unlikes, .ref (a_t 35), .ref (a_t 36)])), ((a_t 1), .inl (g.2.2.1 0, 27, .inl t_mem)), ((a_t 20), .inl (g.2.2.1 0, 8, .inl t_row))] H → va_D A [((a_t 0), .inr (7, [.ref (a_t 1), .ref (a_t 2), .int t_acted, .ref (a_t 4), .ref (a_t 5), .ref (a_t 6), .ref (a_t 7), .ref (a_t 8), .ref (a_t 9), .int t_taped, .int t_faultKind, .int t_faultPlace, .int t_at, .int t_begin, .int t_token, .int t_value, .int t_bad, .ref (a_t 18), .ref (a_t 19), .ref (a_t 20), .int t_wide, .int t_lost, .ref (a_t 23), .long t_det, .ref (a_t 25), .int t_mask, .int t_mode, .int t_wanted, .int t_orders, .int t_foundAt, .long t_foundBy, .ref (a_t 32), .ref (a_t 33), .int t_unlikes, .ref (a_t 35), .ref (a_t 36)])), ((a_t 1), .inl (g.2.2.1 0, 27, .inl t_mem)), ((a_t 20), .inl (g.2.2.1 0, 8, .inl t_row))] → va_S A s.heap H locs → ∀ (ls : Array Slot), lv_has ls 3 [(0, .ref ((a_t 0))), (1, .int v1), (2, .int v2)] → fX8_laysSet_12  n t_mem t_row t_wide t_lost v1 v2 = some (o_t_row, o_t_wide, o_t_lost) → W p l e ⟨1, 0, 0, 21⟩ s m args below meth c H locs 0 0 Q (F0 m 12 ls []) := by
    intro n
    induction n with
    | zero => intro t_row t_wide t_lost v1 v2 H locs hP hD hS ls hl h; cases (fX8_laysSet_12_z  t_mem t_row t_wide t_lost v1 v2).symm.trans h
    | succ n ih =>
    intro t_row t_wide t_lost v1 v2 H locs hP hD hS ls hl h
    have h := (fX8_laysSet_12_s  n t_mem t_row t_wide t_lost v1 v2).symm.trans h
    have hG := hGk hS
    refine lv_iload_n hx hb dX8_laysSet_12 rfl (lv_at hl 2 rfl) ?_
    refine lv_aload_n hx hb dX8_laysSet_13 rfl (lv_at hl 0 rfl) ?_
    refine xa_get (C := RX8) (T := TX8) (N := 36) cx hG hP 0 rfl rfl uX8 0 (by decide) lf_X8_21 rfl dX8_laysSet_14 ?_
    refine lv_iconst (v := 2) hx hb dX8_laysSet_17 (by decide) ?_
    refine xa_iald (k := 2) cx hG hP 1 rfl (show ¬ ((2 : Int32) < 0 ∨ 27 ≤ (2 : Int32).toNatClampNeg) by decide) (by decide) dX8_laysSet_18 ?_
    refine lv_icmp_ge (tgt := 64) hx hb dX8_laysSet_19 (by decide) (fun c1 => ?_) (fun c1 => ?_)
    · have h := itp c1 h
      exact hrt (fun _ => 0) _ _ t_row t_wide t_lost _ _ dX8_laysSet_64 h (hP.sub [0, 1, 2] rfl) (hD.sub [0, 1, 2] (by decide) rfl) hS
    · have h := itn c1 h
      refine lv_iload_n hx hb dX8_laysSet_22 rfl (lv_at hl 1 rfl) ?_
      refine lv_iload_n hx hb dX8_laysSet_23 rfl (lv_at hl 2 rfl) ?_
      refine ro_z (runS (As := [.int v1, .int v2]) (rest := []) cx hl.1 (ctX8_has l g v1 v2 (fX8_has v1 v2) rfl) kmX8_has ksX8_has lm_X8_212 ⟨rfl, rfl⟩ ⟨Nat.le_of_ble_eq_true rfl, Nat.le_of_ble_eq_true rfl⟩ (roS hG (hP.sub [] rfl)) rfl rfl (Nat.le_of_ble_eq_true rfl) dX8_laysSet_24 ⟨Nat.le_of_ble_eq_true rfl, Nat.le_of_ble_eq_true rfl⟩) (fun hz2 => ?_)
      refine lv_if_eq (tgt := 58) hx hb dX8_laysSet_27 (by decide) (fun c3 => ?_) (fun c3 => ?_)
      · have h := itp c3 h
        exact w58 _ ih t_row t_wide t_lost v1 v2 _ _ hP hD hS _ (lv_sub hl [0, 1, 2] rfl) h
      · have h := itn c3 h
        refine lv_aload_n hx hb dX8_laysSet_30 rfl (lv_at hl 0 rfl) ?_
        refine xa_get (C := RX8) (T := TX8) (N := 36) cx hG hP 0 rfl rfl uX8 19 (by decide) lf_X8_57 rfl dX8_laysSet_31 ?_
        refine lv_aload_n hx hb dX8_laysSet_34 rfl (lv_at hl 0 rfl) ?_
        refine xa_get (C := RX8) (T := TX8) (N := 36) cx hG hP 0 rfl rfl uX8 20 (by decide) lf_X8_206 rfl dX8_laysSet_35 ?_
        refine lv_aload_n hx hb dX8_laysSet_38 rfl (lv_at hl 0 rfl) ?_
        refine xa_get (C := RX8) (T := TX8) (N := 36) cx hG hP 0 rfl rfl uX8 0 (by decide) lf_X8_21 rfl dX8_laysSet_39 ?_
        refine lv_bipush (v := 19) hx hb dX8_laysSet_42 (by decide) ?_
        refine lv_iload_n hx hb dX8_laysSet_44 rfl (lv_at hl 2 rfl) ?_
        refine lv_iadd hx hb dX8_laysSet_45 ?_
        obtain ⟨hi4, h⟩ := chk_out h
        refine xa_iald cx hG hP 1 rfl hi4 rfl dX8_laysSet_46 ?_
        obtain ⟨hi5, h⟩ := chk_out h
        refine xw_iast (ws' := [((a_t 0), .inr (7, [.ref (a_t 1), .ref (a_t 2), .int t_acted, .ref (a_t 4), .ref (a_t 5), .ref (a_t 6), .ref (a_t 7), .ref (a_t 8), .ref (a_t 9), .int t_taped, .int t_faultKind, .int t_faultPlace, .int t_at, .int t_begin, .int t_token, .int t_value, .int t_bad, .ref (a_t 18), .ref (a_t 19), .ref (a_t 20), .int t_wide, .int t_lost, .ref (a_t 23), .long t_det, .ref (a_t 25), .int t_mask, .int t_mode, .int t_wanted, .int t_orders, .int t_foundAt, .long t_foundBy, .ref (a_t 32), .ref (a_t 33), .int t_unlikes, .ref (a_t 35), .ref (a_t 36)])), ((a_t 1), .inl (g.2.2.1 0, 27, .inl t_mem)), ((a_t 20), .inl (g.2.2.1 0, 8, .inl (upd t_row t_wide.toNatClampNeg (t_mem (19 + v2).toNatClampNeg))))]) (k := t_wide.toNatClampNeg) cx hG hP hD hS 2 rfl hi5 rfl rfl dX8_laysSet_47 (fun H locs hP hD hS => ?_)
        have hG := hGk hS
        refine lv_aload_n hx hb dX8_laysSet_48 rfl (lv_at hl 0 rfl) ?_
        refine lv_dup hx hb dX8_laysSet_49 rfl ?_
        refine xa_get (C := RX8) (T := TX8) (N := 36) cx hG hP 0 rfl rfl uX8 20 (by decide) lf_X8_206 rfl dX8_laysSet_50 ?_
        refine lv_iconst (v := 1) hx hb dX8_laysSet_53 (by decide) ?_
        refine lv_iadd hx hb dX8_laysSet_54 ?_
        refine xw_put (C := RX8) (T := TX8) (N := 36) (ty := .int) (v := .int (t_wide + 1)) (ws' := [((a_t 0), .inr (7, [.ref (a_t 1), .ref (a_t 2), .int t_acted, .ref (a_t 4), .ref (a_t 5), .ref (a_t 6), .ref (a_t 7), .ref (a_t 8), .ref (a_t 9), .int t_taped, .int t_faultKind, .int t_faultPlace, .int t_at, .int t_begin, .int t_token, .int t_value, .int t_bad, .ref (a_t 18), .ref (a_t 19), .ref (a_t 20), .int (t_wide + 1), .int t_lost, .ref (a_t 23), .long t_det, .ref (a_t 25), .int t_mask, .int t_mode, .int t_wanted, .int t_orders, .int t_foundAt, .long t_foundBy, .ref (a_t 32), .ref (a_t 33), .int t_unlikes, .ref (a_t 35), .ref (a_t 36)])), ((a_t 1), .inl (g.2.2.1 0, 27, .inl t_mem)), ((a_t 20), .inl (g.2.2.1 0, 8, .inl (upd t_row t_wide.toNatClampNeg (t_mem (19 + v2).toNatClampNeg))))]) cx hG hP hD hS 0 rfl rfl uX8 tyX8 tyX8_ok nmX8 20 (by decide) lf_X8_206 rfl (by decide +kernel) rfl rfl (Nat.le_of_ble_eq_true rfl) rfl dX8_laysSet_55 (fun H locs hP hD hS => ?_)
        have hG := hGk hS
        exact w58 _ ih (upd t_row t_wide.toNatClampNeg (t_mem (19 + v2).toNatClampNeg)) (t_wide + 1) t_lost v1 v2 _ _ hP hD hS _ (lv_sub hl [0, 1, 2] rfl) h
  unfold fX8_laysSet at h
  refine lv_aload_n hx hb dX8_laysSet_0 rfl (lv_at hl 0 rfl) ?_
  refine lv_iconst (v := 0) hx hb dX8_laysSet_1 (by decide) ?_
  refine xw_put (C := RX8) (T := TX8) (N := 36) (ty := .int) (v := .int (0)) (ws' := [((a_t 0), .inr (7, [.ref (a_t 1), .ref (a_t 2), .int t_acted, .ref (a_t 4), .ref (a_t 5), .ref (a_t 6), .ref (a_t 7), .ref (a_t 8), .ref (a_t 9), .int t_taped, .int t_faultKind, .int t_faultPlace, .int t_at, .int t_begin, .int t_token, .int t_value, .int t_bad, .ref (a_t 18), .ref (a_t 19), .ref (a_t 20), .int 0, .int t_lost, .ref (a_t 23), .long t_det, .ref (a_t 25), .int t_mask, .int t_mode, .int t_wanted, .int t_orders, .int t_foundAt, .long t_foundBy, .ref (a_t 32), .ref (a_t 33), .int t_unlikes, .ref (a_t 35), .ref (a_t 36)])), ((a_t 1), .inl (g.2.2.1 0, 27, .inl t_mem)), ((a_t 20), .inl (g.2.2.1 0, 8, .inl t_row))]) cx hG hP hD hS 0 rfl rfl uX8 tyX8 tyX8_ok nmX8 20 (by decide) lf_X8_206 rfl (by decide +kernel) rfl rfl (Nat.le_of_ble_eq_true rfl) rfl dX8_laysSet_2 (fun H locs hP hD hS => ?_)
  have hG := hGk hS
  refine lv_aload_n hx hb dX8_laysSet_5 rfl (lv_at hl 0 rfl) ?_
  refine lv_iconst (v := 0) hx hb dX8_laysSet_6 (by decide) ?_
  refine xw_put (C := RX8) (T := TX8) (N := 36) (ty := .int) (v := .int (0)) (ws' := [((a_t 0), .inr (7, [.ref (a_t 1), .ref (a_t 2), .int t_acted, .ref (a_t 4), .ref (a_t 5), .ref (a_t 6), .ref (a_t 7), .ref (a_t 8), .ref (a_t 9), .int t_taped, .int t_faultKind, .int t_faultPlace, .int t_at, .int t_begin, .int t_token, .int t_value, .int t_bad, .ref (a_t 18), .ref (a_t 19), .ref (a_t 20), .int 0, .int 0, .ref (a_t 23), .long t_det, .ref (a_t 25), .int t_mask, .int t_mode, .int t_wanted, .int t_orders, .int t_foundAt, .long t_foundBy, .ref (a_t 32), .ref (a_t 33), .int t_unlikes, .ref (a_t 35), .ref (a_t 36)])), ((a_t 1), .inl (g.2.2.1 0, 27, .inl t_mem)), ((a_t 20), .inl (g.2.2.1 0, 8, .inl t_row))]) cx hG hP hD hS 0 rfl rfl uX8 tyX8 tyX8_ok nmX8 21 (by decide) lf_X8_209 rfl (by decide +kernel) rfl rfl (Nat.le_of_ble_eq_true rfl) rfl dX8_laysSet_7 (fun H locs hP hD hS => ?_)
  have hG := hGk hS
  refine lv_iconst (v := 0) hx hb dX8_laysSet_10 (by decide) ?_
  refine lv_istore_n (lv' := [(2, .int (0)), (0, .ref ((a_t 0))), (1, .int v1)]) hx hb dX8_laysSet_11 rfl hl (by decide) rfl (fun ls hl => ?_)
  exact w12 FU t_row 0 0 v1 0 _ _ hP hD hS _ (lv_sub hl [1, 2, 0] rfl) h
-- X8_entry
theorem dX8_entry_0 : decode cX8_entry 0 = .ok (.iconst 4, 1) := by decide +kernel
theorem dX8_entry_1 : decode cX8_entry 1 = .ok (.iconst 5, 1) := by decide +kernel
theorem dX8_entry_2 : decode cX8_entry 2 = .ok (.iload_n 1, 1) := by decide +kernel
theorem dX8_entry_3 : decode cX8_entry 3 = .ok (.iconst 4, 1) := by decide +kernel
theorem dX8_entry_4 : decode cX8_entry 4 = .ok (.idiv, 1) := by decide +kernel
theorem dX8_entry_5 : decode cX8_entry 5 = .ok (.imul, 1) := by decide +kernel
theorem dX8_entry_6 : decode cX8_entry 6 = .ok (.iadd, 1) := by decide +kernel
theorem dX8_entry_7 : decode cX8_entry 7 = .ok (.istore 4, 2) := by decide +kernel
theorem dX8_entry_9 : decode cX8_entry 9 = .ok (.iload_n 1, 1) := by decide +kernel
theorem dX8_entry_10 : decode cX8_entry 10 = .ok (.iconst 4, 1) := by decide +kernel
theorem dX8_entry_11 : decode cX8_entry 11 = .ok (.irem, 1) := by decide +kernel
theorem dX8_entry_12 : decode cX8_entry 12 = .ok (.istore 5, 2) := by decide +kernel
theorem dX8_entry_14 : decode cX8_entry 14 = .ok (.iload 5, 2) := by decide +kernel
theorem dX8_entry_16 : decode cX8_entry 16 = .ok (.ifCond .ne 7, 3) := by decide +kernel
theorem dX8_entry_19 : decode cX8_entry 19 = .ok (.iconst 1, 1) := by decide +kernel
theorem dX8_entry_20 : decode cX8_entry 20 = .ok (.goto 14, 3) := by decide +kernel
theorem dX8_entry_23 : decode cX8_entry 23 = .ok (.iload 5, 2) := by decide +kernel
theorem dX8_entry_25 : decode cX8_entry 25 = .ok (.iconst 3, 1) := by decide +kernel
theorem dX8_entry_26 : decode cX8_entry 26 = .ok (.if_icmp .ne 7, 3) := by decide +kernel
theorem dX8_entry_29 : decode cX8_entry 29 = .ok (.iconst (-1), 1) := by decide +kernel
theorem dX8_entry_30 : decode cX8_entry 30 = .ok (.goto 4, 3) := by decide +kernel
theorem dX8_entry_33 : decode cX8_entry 33 = .ok (.iconst 0, 1) := by decide +kernel
theorem dX8_entry_34 : decode cX8_entry 34 = .ok (.istore 6, 2) := by decide +kernel
theorem dX8_entry_36 : decode cX8_entry 36 = .ok (.iload 5, 2) := by decide +kernel
theorem dX8_entry_38 : decode cX8_entry 38 = .ok (.ifCond .eq 9, 3) := by decide +kernel
theorem dX8_entry_41 : decode cX8_entry 41 = .ok (.iload 5, 2) := by decide +kernel
theorem dX8_entry_43 : decode cX8_entry 43 = .ok (.iconst 3, 1) := by decide +kernel
theorem dX8_entry_44 : decode cX8_entry 44 = .ok (.if_icmp .ne 7, 3) := by decide +kernel
theorem dX8_entry_47 : decode cX8_entry 47 = .ok (.iconst 1, 1) := by decide +kernel
theorem dX8_entry_48 : decode cX8_entry 48 = .ok (.goto 4, 3) := by decide +kernel
theorem dX8_entry_51 : decode cX8_entry 51 = .ok (.iconst (-1), 1) := by decide +kernel
theorem dX8_entry_52 : decode cX8_entry 52 = .ok (.istore 7, 2) := by decide +kernel
theorem dX8_entry_54 : decode cX8_entry 54 = .ok (.iload_n 2, 1) := by decide +kernel
theorem dX8_entry_55 : decode cX8_entry 55 = .ok (.iconst 2, 1) := by decide +kernel
theorem dX8_entry_56 : decode cX8_entry 56 = .ok (.if_icmp .ne 42, 3) := by decide +kernel
theorem dX8_entry_59 : decode cX8_entry 59 = .ok (.iload_n 3, 1) := by decide +kernel
theorem dX8_entry_60 : decode cX8_entry 60 = .ok (.iconst 2, 1) := by decide +kernel
theorem dX8_entry_61 : decode cX8_entry 61 = .ok (.if_icmp .ne 37, 3) := by decide +kernel
theorem dX8_entry_64 : decode cX8_entry 64 = .ok (.aload_n 0, 1) := by decide +kernel
theorem dX8_entry_65 : decode cX8_entry 65 = .ok (.getfield 21, 3) := by decide +kernel
theorem dX8_entry_68 : decode cX8_entry 68 = .ok (.iload 4, 2) := by decide +kernel
theorem dX8_entry_70 : decode cX8_entry 70 = .ok (.iaload, 1) := by decide +kernel
theorem dX8_entry_71 : decode cX8_entry 71 = .ok (.aload_n 0, 1) := by decide +kernel
theorem dX8_entry_72 : decode cX8_entry 72 = .ok (.getfield 21, 3) := by decide +kernel
theorem dX8_entry_75 : decode cX8_entry 75 = .ok (.iload 4, 2) := by decide +kernel
theorem dX8_entry_77 : decode cX8_entry 77 = .ok (.iconst 3, 1) := by decide +kernel
theorem dX8_entry_78 : decode cX8_entry 78 = .ok (.iadd, 1) := by decide +kernel
theorem dX8_entry_79 : decode cX8_entry 79 = .ok (.iaload, 1) := by decide +kernel
theorem dX8_entry_80 : decode cX8_entry 80 = .ok (.isub, 1) := by decide +kernel
theorem dX8_entry_81 : decode cX8_entry 81 = .ok (.iconst 2, 1) := by decide +kernel
theorem dX8_entry_82 : decode cX8_entry 82 = .ok (.iload 7, 2) := by decide +kernel
theorem dX8_entry_84 : decode cX8_entry 84 = .ok (.imul, 1) := by decide +kernel
theorem dX8_entry_85 : decode cX8_entry 85 = .ok (.aload_n 0, 1) := by decide +kernel
theorem dX8_entry_86 : decode cX8_entry 86 = .ok (.getfield 21, 3) := by decide +kernel
theorem dX8_entry_89 : decode cX8_entry 89 = .ok (.iload 4, 2) := by decide +kernel
theorem dX8_entry_91 : decode cX8_entry 91 = .ok (.iconst 2, 1) := by decide +kernel
theorem dX8_entry_92 : decode cX8_entry 92 = .ok (.iadd, 1) := by decide +kernel
theorem dX8_entry_93 : decode cX8_entry 93 = .ok (.iaload, 1) := by decide +kernel
theorem dX8_entry_94 : decode cX8_entry 94 = .ok (.imul, 1) := by decide +kernel
theorem dX8_entry_95 : decode cX8_entry 95 = .ok (.isub, 1) := by decide +kernel
theorem dX8_entry_96 : decode cX8_entry 96 = .ok (.i2l, 1) := by decide +kernel
theorem dX8_entry_97 : decode cX8_entry 97 = .ok (.lreturn, 1) := by decide +kernel
theorem dX8_entry_98 : decode cX8_entry 98 = .ok (.iload_n 2, 1) := by decide +kernel
theorem dX8_entry_99 : decode cX8_entry 99 = .ok (.iconst 2, 1) := by decide +kernel
theorem dX8_entry_100 : decode cX8_entry 100 = .ok (.if_icmp .eq 8, 3) := by decide +kernel
theorem dX8_entry_103 : decode cX8_entry 103 = .ok (.iload_n 3, 1) := by decide +kernel
theorem dX8_entry_104 : decode cX8_entry 104 = .ok (.iconst 2, 1) := by decide +kernel
theorem dX8_entry_105 : decode cX8_entry 105 = .ok (.if_icmp .ne 44, 3) := by decide +kernel
theorem dX8_entry_108 : decode cX8_entry 108 = .ok (.iload 5, 2) := by decide +kernel
theorem dX8_entry_110 : decode cX8_entry 110 = .ok (.iconst 1, 1) := by decide +kernel
theorem dX8_entry_111 : decode cX8_entry 111 = .ok (.if_icmp .ne 16, 3) := by decide +kernel
theorem dX8_entry_114 : decode cX8_entry 114 = .ok (.aload_n 0, 1) := by decide +kernel
theorem dX8_entry_115 : decode cX8_entry 115 = .ok (.getfield 21, 3) := by decide +kernel
theorem dX8_entry_118 : decode cX8_entry 118 = .ok (.iload 4, 2) := by decide +kernel
theorem dX8_entry_120 : decode cX8_entry 120 = .ok (.iconst 1, 1) := by decide +kernel
theorem dX8_entry_121 : decode cX8_entry 121 = .ok (.iadd, 1) := by decide +kernel
theorem dX8_entry_122 : decode cX8_entry 122 = .ok (.iaload, 1) := by decide +kernel
theorem dX8_entry_123 : decode cX8_entry 123 = .ok (.i2l, 1) := by decide +kernel
theorem dX8_entry_124 : decode cX8_entry 124 = .ok (.goto 24, 3) := by decide +kernel
theorem dX8_entry_127 : decode cX8_entry 127 = .ok (.iload 5, 2) := by decide +kernel
theorem dX8_entry_129 : decode cX8_entry 129 = .ok (.iconst 2, 1) := by decide +kernel
theorem dX8_entry_130 : decode cX8_entry 130 = .ok (.if_icmp .ne 17, 3) := by decide +kernel
theorem dX8_entry_133 : decode cX8_entry 133 = .ok (.aload_n 0, 1) := by decide +kernel
theorem dX8_entry_134 : decode cX8_entry 134 = .ok (.getfield 21, 3) := by decide +kernel
theorem dX8_entry_137 : decode cX8_entry 137 = .ok (.iload 4, 2) := by decide +kernel
theorem dX8_entry_139 : decode cX8_entry 139 = .ok (.iconst 1, 1) := by decide +kernel
theorem dX8_entry_140 : decode cX8_entry 140 = .ok (.iadd, 1) := by decide +kernel
theorem dX8_entry_141 : decode cX8_entry 141 = .ok (.iaload, 1) := by decide +kernel
theorem dX8_entry_142 : decode cX8_entry 142 = .ok (.ineg, 1) := by decide +kernel
theorem dX8_entry_143 : decode cX8_entry 143 = .ok (.i2l, 1) := by decide +kernel
theorem dX8_entry_144 : decode cX8_entry 144 = .ok (.goto 4, 3) := by decide +kernel
theorem dX8_entry_147 : decode cX8_entry 147 = .ok (.lconst 0, 1) := by decide +kernel
theorem dX8_entry_148 : decode cX8_entry 148 = .ok (.lreturn, 1) := by decide +kernel
theorem dX8_entry_149 : decode cX8_entry 149 = .ok (.iload_n 2, 1) := by decide +kernel
theorem dX8_entry_150 : decode cX8_entry 150 = .ok (.iload_n 3, 1) := by decide +kernel
theorem dX8_entry_151 : decode cX8_entry 151 = .ok (.if_icmp .eq 31, 3) := by decide +kernel
theorem dX8_entry_154 : decode cX8_entry 154 = .ok (.iconst 2, 1) := by decide +kernel
theorem dX8_entry_155 : decode cX8_entry 155 = .ok (.aload_n 0, 1) := by decide +kernel
theorem dX8_entry_156 : decode cX8_entry 156 = .ok (.getfield 21, 3) := by decide +kernel
theorem dX8_entry_159 : decode cX8_entry 159 = .ok (.iload 4, 2) := by decide +kernel
theorem dX8_entry_161 : decode cX8_entry 161 = .ok (.iconst 3, 1) := by decide +kernel
theorem dX8_entry_162 : decode cX8_entry 162 = .ok (.iadd, 1) := by decide +kernel
theorem dX8_entry_163 : decode cX8_entry 163 = .ok (.iaload, 1) := by decide +kernel
theorem dX8_entry_164 : decode cX8_entry 164 = .ok (.imul, 1) := by decide +kernel
theorem dX8_entry_165 : decode cX8_entry 165 = .ok (.iconst 2, 1) := by decide +kernel
theorem dX8_entry_166 : decode cX8_entry 166 = .ok (.iload 7, 2) := by decide +kernel
theorem dX8_entry_168 : decode cX8_entry 168 = .ok (.imul, 1) := by decide +kernel
theorem dX8_entry_169 : decode cX8_entry 169 = .ok (.aload_n 0, 1) := by decide +kernel
theorem dX8_entry_170 : decode cX8_entry 170 = .ok (.getfield 21, 3) := by decide +kernel
theorem dX8_entry_173 : decode cX8_entry 173 = .ok (.iload 4, 2) := by decide +kernel
theorem dX8_entry_175 : decode cX8_entry 175 = .ok (.iconst 2, 1) := by decide +kernel
theorem dX8_entry_176 : decode cX8_entry 176 = .ok (.iadd, 1) := by decide +kernel
theorem dX8_entry_177 : decode cX8_entry 177 = .ok (.iaload, 1) := by decide +kernel
theorem dX8_entry_178 : decode cX8_entry 178 = .ok (.imul, 1) := by decide +kernel
theorem dX8_entry_179 : decode cX8_entry 179 = .ok (.isub, 1) := by decide +kernel
theorem dX8_entry_180 : decode cX8_entry 180 = .ok (.i2l, 1) := by decide +kernel
theorem dX8_entry_181 : decode cX8_entry 181 = .ok (.lreturn, 1) := by decide +kernel
theorem dX8_entry_182 : decode cX8_entry 182 = .ok (.iconst 2, 1) := by decide +kernel
theorem dX8_entry_183 : decode cX8_entry 183 = .ok (.aload_n 0, 1) := by decide +kernel
theorem dX8_entry_184 : decode cX8_entry 184 = .ok (.getfield 21, 3) := by decide +kernel
theorem dX8_entry_187 : decode cX8_entry 187 = .ok (.iload 4, 2) := by decide +kernel
theorem dX8_entry_189 : decode cX8_entry 189 = .ok (.iaload, 1) := by decide +kernel
theorem dX8_entry_190 : decode cX8_entry 190 = .ok (.imul, 1) := by decide +kernel
theorem dX8_entry_191 : decode cX8_entry 191 = .ok (.iload_n 2, 1) := by decide +kernel
theorem dX8_entry_192 : decode cX8_entry 192 = .ok (.ifCond .ne 7, 3) := by decide +kernel
theorem dX8_entry_195 : decode cX8_entry 195 = .ok (.iconst 2, 1) := by decide +kernel
theorem dX8_entry_196 : decode cX8_entry 196 = .ok (.goto 5, 3) := by decide +kernel
theorem dX8_entry_199 : decode cX8_entry 199 = .ok (.bipush (-2), 2) := by decide +kernel
theorem dX8_entry_201 : decode cX8_entry 201 = .ok (.iload 6, 2) := by decide +kernel
theorem dX8_entry_203 : decode cX8_entry 203 = .ok (.imul, 1) := by decide +kernel
theorem dX8_entry_204 : decode cX8_entry 204 = .ok (.aload_n 0, 1) := by decide +kernel
theorem dX8_entry_205 : decode cX8_entry 205 = .ok (.getfield 21, 3) := by decide +kernel
theorem dX8_entry_208 : decode cX8_entry 208 = .ok (.iload 4, 2) := by decide +kernel
theorem dX8_entry_210 : decode cX8_entry 210 = .ok (.iconst 1, 1) := by decide +kernel
theorem dX8_entry_211 : decode cX8_entry 211 = .ok (.iadd, 1) := by decide +kernel
theorem dX8_entry_212 : decode cX8_entry 212 = .ok (.iaload, 1) := by decide +kernel
theorem dX8_entry_213 : decode cX8_entry 213 = .ok (.imul, 1) := by decide +kernel
theorem dX8_entry_214 : decode cX8_entry 214 = .ok (.iadd, 1) := by decide +kernel
theorem dX8_entry_215 : decode cX8_entry 215 = .ok (.iconst 2, 1) := by decide +kernel
theorem dX8_entry_216 : decode cX8_entry 216 = .ok (.iload 7, 2) := by decide +kernel
theorem dX8_entry_218 : decode cX8_entry 218 = .ok (.imul, 1) := by decide +kernel
theorem dX8_entry_219 : decode cX8_entry 219 = .ok (.aload_n 0, 1) := by decide +kernel
theorem dX8_entry_220 : decode cX8_entry 220 = .ok (.getfield 21, 3) := by decide +kernel
theorem dX8_entry_223 : decode cX8_entry 223 = .ok (.iload 4, 2) := by decide +kernel
theorem dX8_entry_225 : decode cX8_entry 225 = .ok (.iconst 2, 1) := by decide +kernel
theorem dX8_entry_226 : decode cX8_entry 226 = .ok (.iadd, 1) := by decide +kernel
theorem dX8_entry_227 : decode cX8_entry 227 = .ok (.iaload, 1) := by decide +kernel
theorem dX8_entry_228 : decode cX8_entry 228 = .ok (.imul, 1) := by decide +kernel
theorem dX8_entry_229 : decode cX8_entry 229 = .ok (.iadd, 1) := by decide +kernel
theorem dX8_entry_230 : decode cX8_entry 230 = .ok (.i2l, 1) := by decide +kernel
theorem dX8_entry_231 : decode cX8_entry 231 = .ok (.lreturn, 1) := by decide +kernel
noncomputable def fX8_entry_108  (t_mem : Nat → Int32) (v4 : Int32) (v5 : Int32) : Option (Int64) := (if v5 = 1 then chk 27 (v4 + 1) (some ((t_mem (v4 + 1).toNatClampNeg).toInt64)) else (if v5 = 2 then chk 27 (v4 + 1) (some ((-(t_mem (v4 + 1).toNatClampNeg)).toInt64)) else some (0)))
noncomputable def fX8_entry_201  (t_mem : Nat → Int32) (v4 : Int32) (v6 : Int32) (v7 : Int32) (z0 : Int32) (z1 : Int32) : Option (Int64) := chk 27 (v4 + 1) (chk 27 (v4 + 2) (some (((z0 + ((z1 * v6) * (t_mem (v4 + 1).toNatClampNeg))) + ((2 * v7) * (t_mem (v4 + 2).toNatClampNeg))).toInt64)))
noncomputable def fX8_entry_98  (t_mem : Nat → Int32) (v2 : Int32) (v3 : Int32) (v4 : Int32) (v5 : Int32) (v6 : Int32) (v7 : Int32) : Option (Int64) := (if v2 = 2 then fX8_entry_108 t_mem v4 v5 else (if v3 = 2 then fX8_entry_108 t_mem v4 v5 else (if v2 = v3 then chk 27 v4 ((if v2 = 0 then fX8_entry_201 t_mem v4 v6 v7 (2 * (t_mem v4.toNatClampNeg)) 2 else fX8_entry_201 t_mem v4 v6 v7 (2 * (t_mem v4.toNatClampNeg)) (-2))) else chk 27 (v4 + 3) (chk 27 (v4 + 2) (some (((2 * (t_mem (v4 + 3).toNatClampNeg)) - ((2 * v7) * (t_mem (v4 + 2).toNatClampNeg))).toInt64))))))
noncomputable def fX8_entry_52  (t_mem : Nat → Int32) (v2 : Int32) (v3 : Int32) (v4 : Int32) (v5 : Int32) (v6 : Int32) (z0 : Int32) : Option (Int64) := (if v2 = 2 then (if v3 = 2 then chk 27 v4 (chk 27 (v4 + 3) (chk 27 (v4 + 2) (some ((((t_mem v4.toNatClampNeg) - (t_mem (v4 + 3).toNatClampNeg)) - ((2 * z0) * (t_mem (v4 + 2).toNatClampNeg))).toInt64)))) else fX8_entry_98 t_mem v2 v3 v4 v5 v6 z0) else fX8_entry_98 t_mem v2 v3 v4 v5 v6 z0)
noncomputable def fX8_entry_47  (t_mem : Nat → Int32) (v2 : Int32) (v3 : Int32) (v4 : Int32) (v5 : Int32) (v6 : Int32) : Option (Int64) := fX8_entry_52 t_mem v2 v3 v4 v5 v6 1
noncomputable def fX8_entry_34  (t_mem : Nat → Int32) (v2 : Int32) (v3 : Int32) (v4 : Int32) (v5 : Int32) (z0 : Int32) : Option (Int64) := (if v5 = 0 then fX8_entry_47 t_mem v2 v3 v4 v5 z0 else (if v5 = 3 then fX8_entry_47 t_mem v2 v3 v4 v5 z0 else fX8_entry_52 t_mem v2 v3 v4 v5 z0 (-1)))
noncomputable def fX8_entry  (t_mem : Nat → Int32) (v1 : Int32) (v2 : Int32) (v3 : Int32) : Option (Int64) := (if (irem v1 4) = 0 then fX8_entry_34 t_mem v2 v3 (4 + (5 * (v1 / 4))) (irem v1 4) 1 else (if (irem v1 4) = 3 then fX8_entry_34 t_mem v2 v3 (4 + (5 * (v1 / 4))) (irem v1 4) (-1) else fX8_entry_34 t_mem v2 v3 (4 + (5 * (v1 / 4))) (irem v1 4) 0))
set_option maxHeartbeats 4000000 in
set_option maxRecDepth 100000 in
theorem ctX8_entry (l : Launch) (g : GT) (a_t : Nat → Nat) (t_acted : Int32) (t_taped : Int32) (t_faultKind : Int32) (t_faultPlace : Int32) (t_at : Int32) (t_begin : Int32) (t_token : Int32) (t_value : Int32) (t_bad : Int32) (t_wide : Int32) (t_lost : Int32) (t_det : Int64) (t_mask : Int32) (t_mode : Int32) (t_wanted : Int32) (t_orders : Int32) (t_foundAt : Int32) (t_foundBy : Int64) (t_unlikes : Int32) (t_mem : Nat → Int32) (v1 : Int32) (v2 : Int32) (v3 : Int32) (o : Int64) (h : fX8_entry t_mem v1 v2 v3 = some o) : Met l yX8_entry (Cond.code yX8_entry cX8_entry 8 (some .long) :: Tw) ⟨0, 0, 0, 0⟩ (va_Pc [.ref ((a_t 0)), .int v1, .int v2, .int v3] (roB g [((a_t 0), .inr (7, [.ref (a_t 1), .ref (a_t 2), .int t_acted, .ref (a_t 4), .ref (a_t 5), .ref (a_t 6), .ref (a_t 7), .ref (a_t 8), .ref (a_t 9), .int t_taped, .int t_faultKind, .int t_faultPlace, .int t_at, .int t_begin, .int t_token, .int t_value, .int t_bad, .ref (a_t 18), .ref (a_t 19), .ref (a_t 20), .int t_wide, .int t_lost, .ref (a_t 23), .long t_det, .ref (a_t 25), .int t_mask, .int t_mode, .int t_wanted, .int t_orders, .int t_foundAt, .long t_foundBy, .ref (a_t 32), .ref (a_t 33), .int t_unlikes, .ref (a_t 35), .ref (a_t 36)])), ((a_t 1), .inl (g.2.2.1 0, 27, .inl t_mem))])) (vp_Sl (fun x => x = o)) 0 0 (fun _ => False) := by
  refine ro_metl (by decide) (Nat.le_of_ble_eq_true rfl) (lv0 := [(0, .ref ((a_t 0))), (1, .int v1), (2, .int v2), (3, .int v3)]) rfl ?_
  intro p e s m args below meth c ls Q cx hret hG hP hl
  have hx := cx.1
  have hb := cx.2.1
  have hG0 := hG
  have w108 : ∀ (v4 : Int32) (v5 : Int32) (ls : Array Slot), lv_has ls 8 [(0, .ref ((a_t 0))), (4, .int v4), (5, .int v5)] → fX8_entry_108  t_mem v4 v5 = some o → W p l e ⟨0, 0, 0, 0⟩ s m args below meth c s.heap [] 0 0 Q (F0 m 108 ls []) := by
    intro v4 v5 ls hl h
    unfold fX8_entry_108 at h
    refine lv_iload hx hb dX8_entry_108 (lv_at hl 2 rfl) ?_
    refine lv_iconst (v := 1) hx hb dX8_entry_110 (by decide) ?_
    refine lv_icmp_ne (tgt := 127) hx hb dX8_entry_111 (by decide) (fun c17 => ?_) (fun c17 => ?_)
    · have h := itn c17 h
      refine lv_iload hx hb dX8_entry_127 (lv_at hl 2 rfl) ?_
      refine lv_iconst (v := 2) hx hb dX8_entry_129 (by decide) ?_
      refine lv_icmp_ne (tgt := 147) hx hb dX8_entry_130 (by decide) (fun c18 => ?_) (fun c18 => ?_)
      · have h := itn c18 h
        refine lv_lconst (v := 0) hx hb dX8_entry_147 (by decide) ?_
        exact hret _ _ _ dX8_entry_148 (Option.some.inj h)
      · have h := itp c18 h
        refine lv_aload_n hx hb dX8_entry_133 rfl (lv_at hl 0 rfl) ?_
        refine xa_get (C := RX8) (T := TX8) (N := 36) cx hG hP 0 rfl rfl uX8 0 (by decide) lf_X8_21 rfl dX8_entry_134 ?_
        refine lv_iload hx hb dX8_entry_137 (lv_at hl 1 rfl) ?_
        refine lv_iconst (v := 1) hx hb dX8_entry_139 (by decide) ?_
        refine lv_iadd hx hb dX8_entry_140 ?_
        obtain ⟨hi19, h⟩ := chk_out h
        refine xa_iald cx hG hP 1 rfl hi19 rfl dX8_entry_141 ?_
        refine lv_ineg hx hb dX8_entry_142 ?_
        refine lv_i2l (v := (-(t_mem (v4 + 1).toNatClampNeg)).toInt64) hx hb dX8_entry_143 rfl ?_
        refine lv_goto (tgt := 148) hx hb dX8_entry_144 (by decide) ?_
        exact hret _ _ _ dX8_entry_148 (Option.some.inj h)
    · have h := itp c17 h
      refine lv_aload_n hx hb dX8_entry_114 rfl (lv_at hl 0 rfl) ?_
      refine xa_get (C := RX8) (T := TX8) (N := 36) cx hG hP 0 rfl rfl uX8 0 (by decide) lf_X8_21 rfl dX8_entry_115 ?_
      refine lv_iload hx hb dX8_entry_118 (lv_at hl 1 rfl) ?_
      refine lv_iconst (v := 1) hx hb dX8_entry_120 (by decide) ?_
      refine lv_iadd hx hb dX8_entry_121 ?_
      obtain ⟨hi20, h⟩ := chk_out h
      refine xa_iald cx hG hP 1 rfl hi20 rfl dX8_entry_122 ?_
      refine lv_i2l (v := (t_mem (v4 + 1).toNatClampNeg).toInt64) hx hb dX8_entry_123 rfl ?_
      refine lv_goto (tgt := 148) hx hb dX8_entry_124 (by decide) ?_
      exact hret _ _ _ dX8_entry_148 (Option.some.inj h)
  have w201 : ∀ (v4 : Int32) (v6 : Int32) (v7 : Int32) (z0 : Int32) (z1 : Int32) (ls : Array Slot), lv_has ls 8 [(0, .ref ((a_t 0))), (4, .int v4), (6, .int v6), (7, .int v7)] → fX8_entry_201  t_mem v4 v6 v7 z0 z1 = some o → W p l e ⟨0, 0, 0, 0⟩ s m args below meth c s.heap [] 0 0 Q (F0 m 201 ls [.int z1, .int z0]) := by
    intro v4 v6 v7 z0 z1 ls hl h
    unfold fX8_entry_201 at h
    refine lv_iload hx hb dX8_entry_201 (lv_at hl 2 rfl) ?_
    refine lv_imul hx hb dX8_entry_203 ?_
    refine lv_aload_n hx hb dX8_entry_204 rfl (lv_at hl 0 rfl) ?_
    refine xa_get (C := RX8) (T := TX8) (N := 36) cx hG hP 0 rfl rfl uX8 0 (by decide) lf_X8_21 rfl dX8_entry_205 ?_
    refine lv_iload hx hb dX8_entry_208 (lv_at hl 1 rfl) ?_
    refine lv_iconst (v := 1) hx hb dX8_entry_210 (by decide) ?_
    refine lv_iadd hx hb dX8_entry_211 ?_
    obtain ⟨hi21, h⟩ := chk_out h
    refine xa_iald cx hG hP 1 rfl hi21 rfl dX8_entry_212 ?_
    refine lv_imul hx hb dX8_entry_213 ?_
    refine lv_iadd hx hb dX8_entry_214 ?_
    refine lv_iconst (v := 2) hx hb dX8_entry_215 (by decide) ?_
    refine lv_iload hx hb dX8_entry_216 (lv_at hl 3 rfl) ?_
    refine lv_imul hx hb dX8_entry_218 ?_
    refine lv_aload_n hx hb dX8_entry_219 rfl (lv_at hl 0 rfl) ?_
    refine xa_get (C := RX8) (T := TX8) (N := 36) cx hG hP 0 rfl rfl uX8 0 (by decide) lf_X8_21 rfl dX8_entry_220 ?_
    refine lv_iload hx hb dX8_entry_223 (lv_at hl 1 rfl) ?_
    refine lv_iconst (v := 2) hx hb dX8_entry_225 (by decide) ?_
    refine lv_iadd hx hb dX8_entry_226 ?_
    obtain ⟨hi22, h⟩ := chk_out h
    refine xa_iald cx hG hP 1 rfl hi22 rfl dX8_entry_227 ?_
    refine lv_imul hx hb dX8_entry_228 ?_
    refine lv_iadd hx hb dX8_entry_229 ?_
    refine lv_i2l (v := ((z0 + ((z1 * v6) * (t_mem (v4 + 1).toNatClampNeg))) + ((2 * v7) * (t_mem (v4 + 2).toNatClampNeg))).toInt64) hx hb dX8_entry_230 rfl ?_
    exact hret _ _ _ dX8_entry_231 (Option.some.inj h)
  have w98 : ∀ (v2 : Int32) (v3 : Int32) (v4 : Int32) (v5 : Int32) (v6 : Int32) (v7 : Int32) (ls : Array Slot), lv_has ls 8 [(0, .ref ((a_t 0))), (2, .int v2), (3, .int v3), (4, .int v4), (5, .int v5), (6, .int v6), (7, .int v7)] → fX8_entry_98  t_mem v2 v3 v4 v5 v6 v7 = some o → W p l e ⟨0, 0, 0, 0⟩ s m args below meth c s.heap [] 0 0 Q (F0 m 98 ls []) := by
    intro v2 v3 v4 v5 v6 v7 ls hl h
    unfold fX8_entry_98 at h
    refine lv_iload_n hx hb dX8_entry_98 rfl (lv_at hl 1 rfl) ?_
    refine lv_iconst (v := 2) hx hb dX8_entry_99 (by decide) ?_
    refine lv_icmp_eq (tgt := 108) hx hb dX8_entry_100 (by decide) (fun c10 => ?_) (fun c10 => ?_)
    · have h := itp c10 h
      exact w108 v4 v5 _ (lv_sub hl [0, 3, 4] rfl) h
    · have h := itn c10 h
      refine lv_iload_n hx hb dX8_entry_103 rfl (lv_at hl 2 rfl) ?_
      refine lv_iconst (v := 2) hx hb dX8_entry_104 (by decide) ?_
      refine lv_icmp_ne (tgt := 149) hx hb dX8_entry_105 (by decide) (fun c11 => ?_) (fun c11 => ?_)
      · have h := itn c11 h
        refine lv_iload_n hx hb dX8_entry_149 rfl (lv_at hl 1 rfl) ?_
        refine lv_iload_n hx hb dX8_entry_150 rfl (lv_at hl 2 rfl) ?_
        refine lv_icmp_eq (tgt := 182) hx hb dX8_entry_151 (by decide) (fun c12 => ?_) (fun c12 => ?_)
        · have h := itp c12 h
          refine lv_iconst (v := 2) hx hb dX8_entry_182 (by decide) ?_
          refine lv_aload_n hx hb dX8_entry_183 rfl (lv_at hl 0 rfl) ?_
          refine xa_get (C := RX8) (T := TX8) (N := 36) cx hG hP 0 rfl rfl uX8 0 (by decide) lf_X8_21 rfl dX8_entry_184 ?_
          refine lv_iload hx hb dX8_entry_187 (lv_at hl 3 rfl) ?_
          obtain ⟨hi13, h⟩ := chk_out h
          refine xa_iald cx hG hP 1 rfl hi13 rfl dX8_entry_189 ?_
          refine lv_imul hx hb dX8_entry_190 ?_
          refine lv_iload_n hx hb dX8_entry_191 rfl (lv_at hl 1 rfl) ?_
          refine lv_if_ne (tgt := 199) hx hb dX8_entry_192 (by decide) (fun c14 => ?_) (fun c14 => ?_)
          · have h := itn c14 h
            refine lv_bipush (v := -2) hx hb dX8_entry_199 (by decide) ?_
            exact w201 v4 v6 v7 (2 * (t_mem v4.toNatClampNeg)) (-2) _ (lv_sub hl [0, 3, 5, 6] rfl) h
          · have h := itp c14 h
            refine lv_iconst (v := 2) hx hb dX8_entry_195 (by decide) ?_
            refine lv_goto (tgt := 201) hx hb dX8_entry_196 (by decide) ?_
            exact w201 v4 v6 v7 (2 * (t_mem v4.toNatClampNeg)) 2 _ (lv_sub hl [0, 3, 5, 6] rfl) h
        · have h := itn c12 h
          refine lv_iconst (v := 2) hx hb dX8_entry_154 (by decide) ?_
          refine lv_aload_n hx hb dX8_entry_155 rfl (lv_at hl 0 rfl) ?_
          refine xa_get (C := RX8) (T := TX8) (N := 36) cx hG hP 0 rfl rfl uX8 0 (by decide) lf_X8_21 rfl dX8_entry_156 ?_
          refine lv_iload hx hb dX8_entry_159 (lv_at hl 3 rfl) ?_
          refine lv_iconst (v := 3) hx hb dX8_entry_161 (by decide) ?_
          refine lv_iadd hx hb dX8_entry_162 ?_
          obtain ⟨hi15, h⟩ := chk_out h
          refine xa_iald cx hG hP 1 rfl hi15 rfl dX8_entry_163 ?_
          refine lv_imul hx hb dX8_entry_164 ?_
          refine lv_iconst (v := 2) hx hb dX8_entry_165 (by decide) ?_
          refine lv_iload hx hb dX8_entry_166 (lv_at hl 6 rfl) ?_
          refine lv_imul hx hb dX8_entry_168 ?_
          refine lv_aload_n hx hb dX8_entry_169 rfl (lv_at hl 0 rfl) ?_
          refine xa_get (C := RX8) (T := TX8) (N := 36) cx hG hP 0 rfl rfl uX8 0 (by decide) lf_X8_21 rfl dX8_entry_170 ?_
          refine lv_iload hx hb dX8_entry_173 (lv_at hl 3 rfl) ?_
          refine lv_iconst (v := 2) hx hb dX8_entry_175 (by decide) ?_
          refine lv_iadd hx hb dX8_entry_176 ?_
          obtain ⟨hi16, h⟩ := chk_out h
          refine xa_iald cx hG hP 1 rfl hi16 rfl dX8_entry_177 ?_
          refine lv_imul hx hb dX8_entry_178 ?_
          refine lv_isub hx hb dX8_entry_179 ?_
          refine lv_i2l (v := ((2 * (t_mem (v4 + 3).toNatClampNeg)) - ((2 * v7) * (t_mem (v4 + 2).toNatClampNeg))).toInt64) hx hb dX8_entry_180 rfl ?_
          exact hret _ _ _ dX8_entry_181 (Option.some.inj h)
      · have h := itp c11 h
        exact w108 v4 v5 _ (lv_sub hl [0, 3, 4] rfl) h
  have w52 : ∀ (v2 : Int32) (v3 : Int32) (v4 : Int32) (v5 : Int32) (v6 : Int32) (z0 : Int32) (ls : Array Slot), lv_has ls 8 [(0, .ref ((a_t 0))), (2, .int v2), (3, .int v3), (4, .int v4), (5, .int v5), (6, .int v6)] → fX8_entry_52  t_mem v2 v3 v4 v5 v6 z0 = some o → W p l e ⟨0, 0, 0, 0⟩ s m args below meth c s.heap [] 0 0 Q (F0 m 52 ls [.int z0]) := by
    intro v2 v3 v4 v5 v6 z0 ls hl h
    unfold fX8_entry_52 at h
    refine lv_istore (lv' := [(7, .int z0), (0, .ref ((a_t 0))), (2, .int v2), (3, .int v3), (4, .int v4), (5, .int v5), (6, .int v6)]) hx hb dX8_entry_52 hl (by decide) rfl (fun ls hl => ?_)
    refine lv_iload_n hx hb dX8_entry_54 rfl (lv_at hl 2 rfl) ?_
    refine lv_iconst (v := 2) hx hb dX8_entry_55 (by decide) ?_
    refine lv_icmp_ne (tgt := 98) hx hb dX8_entry_56 (by decide) (fun c5 => ?_) (fun c5 => ?_)
    · have h := itn c5 h
      exact w98 v2 v3 v4 v5 v6 z0 _ (lv_sub hl [1, 2, 3, 4, 5, 6, 0] rfl) h
    · have h := itp c5 h
      refine lv_iload_n hx hb dX8_entry_59 rfl (lv_at hl 3 rfl) ?_
      refine lv_iconst (v := 2) hx hb dX8_entry_60 (by decide) ?_
      refine lv_icmp_ne (tgt := 98) hx hb dX8_entry_61 (by decide) (fun c6 => ?_) (fun c6 => ?_)
      · have h := itn c6 h
        exact w98 v2 v3 v4 v5 v6 z0 _ (lv_sub hl [1, 2, 3, 4, 5, 6, 0] rfl) h
      · have h := itp c6 h
        refine lv_aload_n hx hb dX8_entry_64 rfl (lv_at hl 1 rfl) ?_
        refine xa_get (C := RX8) (T := TX8) (N := 36) cx hG hP 0 rfl rfl uX8 0 (by decide) lf_X8_21 rfl dX8_entry_65 ?_
        refine lv_iload hx hb dX8_entry_68 (lv_at hl 4 rfl) ?_
        obtain ⟨hi7, h⟩ := chk_out h
        refine xa_iald cx hG hP 1 rfl hi7 rfl dX8_entry_70 ?_
        refine lv_aload_n hx hb dX8_entry_71 rfl (lv_at hl 1 rfl) ?_
        refine xa_get (C := RX8) (T := TX8) (N := 36) cx hG hP 0 rfl rfl uX8 0 (by decide) lf_X8_21 rfl dX8_entry_72 ?_
        refine lv_iload hx hb dX8_entry_75 (lv_at hl 4 rfl) ?_
        refine lv_iconst (v := 3) hx hb dX8_entry_77 (by decide) ?_
        refine lv_iadd hx hb dX8_entry_78 ?_
        obtain ⟨hi8, h⟩ := chk_out h
        refine xa_iald cx hG hP 1 rfl hi8 rfl dX8_entry_79 ?_
        refine lv_isub hx hb dX8_entry_80 ?_
        refine lv_iconst (v := 2) hx hb dX8_entry_81 (by decide) ?_
        refine lv_iload hx hb dX8_entry_82 (lv_at hl 0 rfl) ?_
        refine lv_imul hx hb dX8_entry_84 ?_
        refine lv_aload_n hx hb dX8_entry_85 rfl (lv_at hl 1 rfl) ?_
        refine xa_get (C := RX8) (T := TX8) (N := 36) cx hG hP 0 rfl rfl uX8 0 (by decide) lf_X8_21 rfl dX8_entry_86 ?_
        refine lv_iload hx hb dX8_entry_89 (lv_at hl 4 rfl) ?_
        refine lv_iconst (v := 2) hx hb dX8_entry_91 (by decide) ?_
        refine lv_iadd hx hb dX8_entry_92 ?_
        obtain ⟨hi9, h⟩ := chk_out h
        refine xa_iald cx hG hP 1 rfl hi9 rfl dX8_entry_93 ?_
        refine lv_imul hx hb dX8_entry_94 ?_
        refine lv_isub hx hb dX8_entry_95 ?_
        refine lv_i2l (v := (((t_mem v4.toNatClampNeg) - (t_mem (v4 + 3).toNatClampNeg)) - ((2 * z0) * (t_mem (v4 + 2).toNatClampNeg))).toInt64) hx hb dX8_entry_96 rfl ?_
        exact hret _ _ _ dX8_entry_97 (Option.some.inj h)
  have w47 : ∀ (v2 : Int32) (v3 : Int32) (v4 : Int32) (v5 : Int32) (v6 : Int32) (ls : Array Slot), lv_has ls 8 [(0, .ref ((a_t 0))), (2, .int v2), (3, .int v3), (4, .int v4), (5, .int v5), (6, .int v6)] → fX8_entry_47  t_mem v2 v3 v4 v5 v6 = some o → W p l e ⟨0, 0, 0, 0⟩ s m args below meth c s.heap [] 0 0 Q (F0 m 47 ls []) := by
    intro v2 v3 v4 v5 v6 ls hl h
    unfold fX8_entry_47 at h
    refine lv_iconst (v := 1) hx hb dX8_entry_47 (by decide) ?_
    refine lv_goto (tgt := 52) hx hb dX8_entry_48 (by decide) ?_
    exact w52 v2 v3 v4 v5 v6 1 _ (lv_sub hl [0, 1, 2, 3, 4, 5] rfl) h
  have w34 : ∀ (v2 : Int32) (v3 : Int32) (v4 : Int32) (v5 : Int32) (z0 : Int32) (ls : Array Slot), lv_has ls 8 [(0, .ref ((a_t 0))), (2, .int v2), (3, .int v3), (4, .int v4), (5, .int v5)] → fX8_entry_34  t_mem v2 v3 v4 v5 z0 = some o → W p l e ⟨0, 0, 0, 0⟩ s m args below meth c s.heap [] 0 0 Q (F0 m 34 ls [.int z0]) := by
    intro v2 v3 v4 v5 z0 ls hl h
    unfold fX8_entry_34 at h
    refine lv_istore (lv' := [(6, .int z0), (0, .ref ((a_t 0))), (2, .int v2), (3, .int v3), (4, .int v4), (5, .int v5)]) hx hb dX8_entry_34 hl (by decide) rfl (fun ls hl => ?_)
    refine lv_iload hx hb dX8_entry_36 (lv_at hl 5 rfl) ?_
    refine lv_if_eq (tgt := 47) hx hb dX8_entry_38 (by decide) (fun c3 => ?_) (fun c3 => ?_)
    · have h := itp c3 h
      exact w47 v2 v3 v4 v5 z0 _ (lv_sub hl [1, 2, 3, 4, 5, 0] rfl) h
    · have h := itn c3 h
      refine lv_iload hx hb dX8_entry_41 (lv_at hl 5 rfl) ?_
      refine lv_iconst (v := 3) hx hb dX8_entry_43 (by decide) ?_
      refine lv_icmp_ne (tgt := 51) hx hb dX8_entry_44 (by decide) (fun c4 => ?_) (fun c4 => ?_)
      · have h := itn c4 h
        refine lv_iconst (v := -1) hx hb dX8_entry_51 (by decide) ?_
        exact w52 v2 v3 v4 v5 z0 (-1) _ (lv_sub hl [1, 2, 3, 4, 5, 0] rfl) h
      · have h := itp c4 h
        exact w47 v2 v3 v4 v5 z0 _ (lv_sub hl [1, 2, 3, 4, 5, 0] rfl) h
  unfold fX8_entry at h
  refine lv_iconst (v := 4) hx hb dX8_entry_0 (by decide) ?_
  refine lv_iconst (v := 5) hx hb dX8_entry_1 (by decide) ?_
  refine lv_iload_n hx hb dX8_entry_2 rfl (lv_at hl 1 rfl) ?_
  refine lv_iconst (v := 4) hx hb dX8_entry_3 (by decide) ?_
  refine lv_idiv hx hb dX8_entry_4 (by decide) ?_
  refine lv_imul hx hb dX8_entry_5 ?_
  refine lv_iadd hx hb dX8_entry_6 ?_
  refine lv_istore (lv' := [(4, .int (4 + (5 * (v1 / 4)))), (0, .ref ((a_t 0))), (1, .int v1), (2, .int v2), (3, .int v3)]) hx hb dX8_entry_7 hl (by decide) rfl (fun ls hl => ?_)
  refine lv_iload_n hx hb dX8_entry_9 rfl (lv_at hl 2 rfl) ?_
  refine lv_iconst (v := 4) hx hb dX8_entry_10 (by decide) ?_
  refine xv_irem hx hb dX8_entry_11 (by decide) ?_
  refine lv_istore (lv' := [(5, .int (irem v1 4)), (4, .int (4 + (5 * (v1 / 4)))), (0, .ref ((a_t 0))), (1, .int v1), (2, .int v2), (3, .int v3)]) hx hb dX8_entry_12 hl (by decide) rfl (fun ls hl => ?_)
  refine lv_iload hx hb dX8_entry_14 (lv_at hl 0 rfl) ?_
  refine lv_if_ne (tgt := 23) hx hb dX8_entry_16 (by decide) (fun c1 => ?_) (fun c1 => ?_)
  · have h := itn c1 h
    refine lv_iload hx hb dX8_entry_23 (lv_at hl 0 rfl) ?_
    refine lv_iconst (v := 3) hx hb dX8_entry_25 (by decide) ?_
    refine lv_icmp_ne (tgt := 33) hx hb dX8_entry_26 (by decide) (fun c2 => ?_) (fun c2 => ?_)
    · have h := itn c2 h
      refine lv_iconst (v := 0) hx hb dX8_entry_33 (by decide) ?_
      exact w34 v2 v3 (4 + (5 * (v1 / 4))) (irem v1 4) 0 _ (lv_sub hl [2, 4, 5, 1, 0] rfl) h
    · have h := itp c2 h
      refine lv_iconst (v := -1) hx hb dX8_entry_29 (by decide) ?_
      refine lv_goto (tgt := 34) hx hb dX8_entry_30 (by decide) ?_
      exact w34 v2 v3 (4 + (5 * (v1 / 4))) (irem v1 4) (-1) _ (lv_sub hl [2, 4, 5, 1, 0] rfl) h
  · have h := itp c1 h
    refine lv_iconst (v := 1) hx hb dX8_entry_19 (by decide) ?_
    refine lv_goto (tgt := 34) hx hb dX8_entry_20 (by decide) ?_
    exact w34 v2 v3 (4 + (5 * (v1 / 4))) (irem v1 4) 1 _ (lv_sub hl [2, 4, 5, 1, 0] rfl) h
