/-! by a program of ours (wip/whole/gen/func.py, mkall.py) out of the listing: Mo_init Ow_init Rd_init Wo_init Tu_init Wk_init -/
noncomputable def f_Mo_init_b267  (s : Sg) : Option (Unit × Sg) :=
  f_ck (zl_at s 46 6) <|
  f_bd (f_Mo_forgets  s) fun r167 s168 =>
  some ((), s168)
theorem w_Mo_init_b267 {s : Sg} {d : Nat} {Q : Option (Option Value) → Sg → Prop} (hd : 2 ≤ d) (h : okx (zq_V Q) (f_Mo_init_b267  s)) : Xw d M_Mo_init 0 0 267 [.ref 46] [] s Q := by
  unfold f_Mo_init_b267 at h
  refine xi_aload_n D_Mo_init_267 rfl ?_
  obtain ⟨g166, h⟩ := okx_ck h
  refine xj_V0 D_Mo_init_268 L_Mo_111 C_Mo_forgets Z_Mo_forgets (g166) (Nat.le_of_ble_eq_true rfl) (Nat.le_of_eq (Nat.sub_add_cancel (by omega))) (w_Mo_forgets (by omega) (okx_mono (okx_bd h) ?_))
  intro r167 s168 h
  show Xw _ _ _ _ 271 _ [] _ _
  exact xi_return D_Mo_init_271 rfl (okx_V h)
noncomputable def f_Mo_init_b234  (s : Sg) : Option (Unit × Sg) :=
  f_ck (zn_SH (mN s) = (13, 4)) <|
  let n147 : Nat := mN s
  let s148 : Sg := uN s
  f_ck (zl_at s148 46 6) <|
  let s150 : Sg := uR s148 46 57 (some n147)
  f_ck (zn_SH (mN s150) = (10, 560)) <|
  let n152 : Nat := mN s150
  let s153 : Sg := uN s150
  f_ck (zl_at s153 46 6) <|
  let s155 : Sg := uR s153 46 58 (some n152)
  f_ck (zn_SH (mN s155) = (11, 28)) <|
  let n157 : Nat := mN s155
  let s158 : Sg := uN s155
  f_ck (zl_at s158 46 6) <|
  let s160 : Sg := uR s158 46 59 (some n157)
  f_ck (zn_SH (mN s160) = (10, 8192)) <|
  let n162 : Nat := mN s160
  let s163 : Sg := uN s160
  f_ck (zl_at s163 46 6) <|
  let s165 : Sg := uR s163 46 60 (some n162)
  f_Mo_init_b267   s165
theorem w_Mo_init_b234 {s : Sg} {d : Nat} {Q : Option (Option Value) → Sg → Prop} (hd : 2 ≤ d) (h : okx (zq_V Q) (f_Mo_init_b234  s)) : Xw d M_Mo_init 4 8784 234 [.ref 46] [] s Q := by
  unfold f_Mo_init_b234 at h
  refine xi_aload_n D_Mo_init_234 rfl ?_
  refine xj_iconst (v := 4) D_Mo_init_235 rfl ?_
  obtain ⟨g146, h⟩ := okx_ck h
  refine xi_newa (k := 13) (n := 4) D_Mo_init_236 rfl T_boolean (by decide) ⟨by decide, by decide, by decide⟩ g146 ⟨by decide, by decide⟩ ?_
  obtain ⟨g149, h⟩ := okx_ck h
  refine xi_putF D_Mo_init_238 F_Mo_99 (g149) ⟨rfl, by decide⟩ ⟨rfl, rfl⟩ rfl ?_
  refine xi_aload_n D_Mo_init_241 rfl ?_
  refine xi_sipush (v := 560) D_Mo_init_242 rfl ?_
  obtain ⟨g151, h⟩ := okx_ck h
  refine xi_newa (k := 10) (n := 560) D_Mo_init_245 rfl T_int (by decide) ⟨by decide, by decide, by decide⟩ g151 ⟨by decide, by decide⟩ ?_
  obtain ⟨g154, h⟩ := okx_ck h
  refine xi_putF D_Mo_init_247 F_Mo_102 (g154) ⟨rfl, by decide⟩ ⟨rfl, rfl⟩ rfl ?_
  refine xi_aload_n D_Mo_init_250 rfl ?_
  refine xi_bipush (v := 28) D_Mo_init_251 rfl ?_
  obtain ⟨g156, h⟩ := okx_ck h
  refine xi_newa (k := 11) (n := 28) D_Mo_init_253 rfl T_long (by decide) ⟨by decide, by decide, by decide⟩ g156 ⟨by decide, by decide⟩ ?_
  obtain ⟨g159, h⟩ := okx_ck h
  refine xi_putF D_Mo_init_255 F_Mo_105 (g159) ⟨rfl, by decide⟩ ⟨rfl, rfl⟩ rfl ?_
  refine xi_aload_n D_Mo_init_258 rfl ?_
  refine xi_sipush (v := 8192) D_Mo_init_259 rfl ?_
  obtain ⟨g161, h⟩ := okx_ck h
  refine xi_newa (k := 10) (n := 8192) D_Mo_init_262 rfl T_int (by decide) ⟨by decide, by decide, by decide⟩ g161 ⟨by decide, by decide⟩ ?_
  obtain ⟨g164, h⟩ := okx_ck h
  refine xi_putF D_Mo_init_264 F_Mo_108 (g164) ⟨rfl, by decide⟩ ⟨rfl, rfl⟩ rfl ?_
  exact w_Mo_init_b267 (by omega)  h
noncomputable def f_Mo_init_b204  (s : Sg) : Option (Unit × Sg) :=
  f_ck (zn_SH (mN s) = (10, 3)) <|
  let n127 : Nat := mN s
  let s128 : Sg := uN s
  f_ck (zl_at s128 46 6) <|
  let s130 : Sg := uR s128 46 43 (some n127)
  f_ck (zn_SH (mN s130) = (13, 3)) <|
  let n132 : Nat := mN s130
  let s133 : Sg := uN s130
  f_ck (zl_at s133 46 6) <|
  let s135 : Sg := uR s133 46 44 (some n132)
  f_ck (zn_SH (mN s135) = (10, 12)) <|
  let n137 : Nat := mN s135
  let s138 : Sg := uN s135
  f_ck (zl_at s138 46 6) <|
  let s140 : Sg := uR s138 46 48 (some n137)
  f_ck (zn_SH (mN s140) = (10, 12)) <|
  let n142 : Nat := mN s140
  let s143 : Sg := uN s140
  f_ck (zl_at s143 46 6) <|
  let s145 : Sg := uR s143 46 49 (some n142)
  f_Mo_init_b234   s145
theorem w_Mo_init_b204 {s : Sg} {d : Nat} {Q : Option (Option Value) → Sg → Prop} (hd : 2 ≤ d) (h : okx (zq_V Q) (f_Mo_init_b204  s)) : Xw d M_Mo_init 8 8814 204 [.ref 46] [] s Q := by
  unfold f_Mo_init_b204 at h
  refine xi_aload_n D_Mo_init_204 rfl ?_
  refine xj_iconst (v := 3) D_Mo_init_205 rfl ?_
  obtain ⟨g126, h⟩ := okx_ck h
  refine xi_newa (k := 10) (n := 3) D_Mo_init_206 rfl T_int (by decide) ⟨by decide, by decide, by decide⟩ g126 ⟨by decide, by decide⟩ ?_
  obtain ⟨g129, h⟩ := okx_ck h
  refine xi_putF D_Mo_init_208 F_Mo_87 (g129) ⟨rfl, by decide⟩ ⟨rfl, rfl⟩ rfl ?_
  refine xi_aload_n D_Mo_init_211 rfl ?_
  refine xj_iconst (v := 3) D_Mo_init_212 rfl ?_
  obtain ⟨g131, h⟩ := okx_ck h
  refine xi_newa (k := 13) (n := 3) D_Mo_init_213 rfl T_boolean (by decide) ⟨by decide, by decide, by decide⟩ g131 ⟨by decide, by decide⟩ ?_
  obtain ⟨g134, h⟩ := okx_ck h
  refine xi_putF D_Mo_init_215 F_Mo_90 (g134) ⟨rfl, by decide⟩ ⟨rfl, rfl⟩ rfl ?_
  refine xi_aload_n D_Mo_init_218 rfl ?_
  refine xi_bipush (v := 12) D_Mo_init_219 rfl ?_
  obtain ⟨g136, h⟩ := okx_ck h
  refine xi_newa (k := 10) (n := 12) D_Mo_init_221 rfl T_int (by decide) ⟨by decide, by decide, by decide⟩ g136 ⟨by decide, by decide⟩ ?_
  obtain ⟨g139, h⟩ := okx_ck h
  refine xi_putF D_Mo_init_223 F_Mo_93 (g139) ⟨rfl, by decide⟩ ⟨rfl, rfl⟩ rfl ?_
  refine xi_aload_n D_Mo_init_226 rfl ?_
  refine xi_bipush (v := 12) D_Mo_init_227 rfl ?_
  obtain ⟨g141, h⟩ := okx_ck h
  refine xi_newa (k := 10) (n := 12) D_Mo_init_229 rfl T_int (by decide) ⟨by decide, by decide, by decide⟩ g141 ⟨by decide, by decide⟩ ?_
  obtain ⟨g144, h⟩ := okx_ck h
  refine xi_putF D_Mo_init_231 F_Mo_96 (g144) ⟨rfl, by decide⟩ ⟨rfl, rfl⟩ rfl ?_
  exact w_Mo_init_b234 (by omega)  h
noncomputable def f_Mo_init_b174  (s : Sg) : Option (Unit × Sg) :=
  f_ck (zn_SH (mN s) = (10, 2048)) <|
  let n107 : Nat := mN s
  let s108 : Sg := uN s
  f_ck (zl_at s108 46 6) <|
  let s110 : Sg := uR s108 46 37 (some n107)
  f_ck (zn_SH (mN s110) = (10, 3)) <|
  let n112 : Nat := mN s110
  let s113 : Sg := uN s110
  f_ck (zl_at s113 46 6) <|
  let s115 : Sg := uR s113 46 40 (some n112)
  f_ck (zn_SH (mN s115) = (10, 3)) <|
  let n117 : Nat := mN s115
  let s118 : Sg := uN s115
  f_ck (zl_at s118 46 6) <|
  let s120 : Sg := uR s118 46 41 (some n117)
  f_ck (zn_SH (mN s120) = (10, 3)) <|
  let n122 : Nat := mN s120
  let s123 : Sg := uN s120
  f_ck (zl_at s123 46 6) <|
  let s125 : Sg := uR s123 46 42 (some n122)
  f_Mo_init_b204   s125
theorem w_Mo_init_b174 {s : Sg} {d : Nat} {Q : Option (Option Value) → Sg → Prop} (hd : 2 ≤ d) (h : okx (zq_V Q) (f_Mo_init_b174  s)) : Xw d M_Mo_init 12 10871 174 [.ref 46] [] s Q := by
  unfold f_Mo_init_b174 at h
  refine xi_aload_n D_Mo_init_174 rfl ?_
  refine xi_sipush (v := 2048) D_Mo_init_175 rfl ?_
  obtain ⟨g106, h⟩ := okx_ck h
  refine xi_newa (k := 10) (n := 2048) D_Mo_init_178 rfl T_int (by decide) ⟨by decide, by decide, by decide⟩ g106 ⟨by decide, by decide⟩ ?_
  obtain ⟨g109, h⟩ := okx_ck h
  refine xi_putF D_Mo_init_180 F_Mo_75 (g109) ⟨rfl, by decide⟩ ⟨rfl, rfl⟩ rfl ?_
  refine xi_aload_n D_Mo_init_183 rfl ?_
  refine xj_iconst (v := 3) D_Mo_init_184 rfl ?_
  obtain ⟨g111, h⟩ := okx_ck h
  refine xi_newa (k := 10) (n := 3) D_Mo_init_185 rfl T_int (by decide) ⟨by decide, by decide, by decide⟩ g111 ⟨by decide, by decide⟩ ?_
  obtain ⟨g114, h⟩ := okx_ck h
  refine xi_putF D_Mo_init_187 F_Mo_78 (g114) ⟨rfl, by decide⟩ ⟨rfl, rfl⟩ rfl ?_
  refine xi_aload_n D_Mo_init_190 rfl ?_
  refine xj_iconst (v := 3) D_Mo_init_191 rfl ?_
  obtain ⟨g116, h⟩ := okx_ck h
  refine xi_newa (k := 10) (n := 3) D_Mo_init_192 rfl T_int (by decide) ⟨by decide, by decide, by decide⟩ g116 ⟨by decide, by decide⟩ ?_
  obtain ⟨g119, h⟩ := okx_ck h
  refine xi_putF D_Mo_init_194 F_Mo_81 (g119) ⟨rfl, by decide⟩ ⟨rfl, rfl⟩ rfl ?_
  refine xi_aload_n D_Mo_init_197 rfl ?_
  refine xj_iconst (v := 3) D_Mo_init_198 rfl ?_
  obtain ⟨g121, h⟩ := okx_ck h
  refine xi_newa (k := 10) (n := 3) D_Mo_init_199 rfl T_int (by decide) ⟨by decide, by decide, by decide⟩ g121 ⟨by decide, by decide⟩ ?_
  obtain ⟨g124, h⟩ := okx_ck h
  refine xi_putF D_Mo_init_201 F_Mo_84 (g124) ⟨rfl, by decide⟩ ⟨rfl, rfl⟩ rfl ?_
  exact w_Mo_init_b204 (by omega)  h
noncomputable def f_Mo_init_b142  (s : Sg) : Option (Unit × Sg) :=
  f_ck (zn_SH (mN s) = (10, 7)) <|
  let n87 : Nat := mN s
  let s88 : Sg := uN s
  f_ck (zl_at s88 46 6) <|
  let s90 : Sg := uR s88 46 33 (some n87)
  f_ck (zn_SH (mN s90) = (10, 7)) <|
  let n92 : Nat := mN s90
  let s93 : Sg := uN s90
  f_ck (zl_at s93 46 6) <|
  let s95 : Sg := uR s93 46 34 (some n92)
  f_ck (zn_SH (mN s95) = (10, 7)) <|
  let n97 : Nat := mN s95
  let s98 : Sg := uN s95
  f_ck (zl_at s98 46 6) <|
  let s100 : Sg := uR s98 46 35 (some n97)
  f_ck (zn_SH (mN s100) = (10, 20)) <|
  let n102 : Nat := mN s100
  let s103 : Sg := uN s100
  f_ck (zl_at s103 46 6) <|
  let s105 : Sg := uR s103 46 36 (some n102)
  f_Mo_init_b174   s105
theorem w_Mo_init_b142 {s : Sg} {d : Nat} {Q : Option (Option Value) → Sg → Prop} (hd : 2 ≤ d) (h : okx (zq_V Q) (f_Mo_init_b142  s)) : Xw d M_Mo_init 16 10912 142 [.ref 46] [] s Q := by
  unfold f_Mo_init_b142 at h
  refine xi_aload_n D_Mo_init_142 rfl ?_
  refine xi_bipush (v := 7) D_Mo_init_143 rfl ?_
  obtain ⟨g86, h⟩ := okx_ck h
  refine xi_newa (k := 10) (n := 7) D_Mo_init_145 rfl T_int (by decide) ⟨by decide, by decide, by decide⟩ g86 ⟨by decide, by decide⟩ ?_
  obtain ⟨g89, h⟩ := okx_ck h
  refine xi_putF D_Mo_init_147 F_Mo_63 (g89) ⟨rfl, by decide⟩ ⟨rfl, rfl⟩ rfl ?_
  refine xi_aload_n D_Mo_init_150 rfl ?_
  refine xi_bipush (v := 7) D_Mo_init_151 rfl ?_
  obtain ⟨g91, h⟩ := okx_ck h
  refine xi_newa (k := 10) (n := 7) D_Mo_init_153 rfl T_int (by decide) ⟨by decide, by decide, by decide⟩ g91 ⟨by decide, by decide⟩ ?_
  obtain ⟨g94, h⟩ := okx_ck h
  refine xi_putF D_Mo_init_155 F_Mo_66 (g94) ⟨rfl, by decide⟩ ⟨rfl, rfl⟩ rfl ?_
  refine xi_aload_n D_Mo_init_158 rfl ?_
  refine xi_bipush (v := 7) D_Mo_init_159 rfl ?_
  obtain ⟨g96, h⟩ := okx_ck h
  refine xi_newa (k := 10) (n := 7) D_Mo_init_161 rfl T_int (by decide) ⟨by decide, by decide, by decide⟩ g96 ⟨by decide, by decide⟩ ?_
  obtain ⟨g99, h⟩ := okx_ck h
  refine xi_putF D_Mo_init_163 F_Mo_69 (g99) ⟨rfl, by decide⟩ ⟨rfl, rfl⟩ rfl ?_
  refine xi_aload_n D_Mo_init_166 rfl ?_
  refine xi_bipush (v := 20) D_Mo_init_167 rfl ?_
  obtain ⟨g101, h⟩ := okx_ck h
  refine xi_newa (k := 10) (n := 20) D_Mo_init_169 rfl T_int (by decide) ⟨by decide, by decide, by decide⟩ g101 ⟨by decide, by decide⟩ ?_
  obtain ⟨g104, h⟩ := okx_ck h
  refine xi_putF D_Mo_init_171 F_Mo_72 (g104) ⟨rfl, by decide⟩ ⟨rfl, rfl⟩ rfl ?_
  exact w_Mo_init_b174 (by omega)  h
noncomputable def f_Mo_init_b110  (s : Sg) : Option (Unit × Sg) :=
  f_ck (zn_SH (mN s) = (10, 7)) <|
  let n67 : Nat := mN s
  let s68 : Sg := uN s
  f_ck (zl_at s68 46 6) <|
  let s70 : Sg := uR s68 46 29 (some n67)
  f_ck (zn_SH (mN s70) = (10, 7)) <|
  let n72 : Nat := mN s70
  let s73 : Sg := uN s70
  f_ck (zl_at s73 46 6) <|
  let s75 : Sg := uR s73 46 30 (some n72)
  f_ck (zn_SH (mN s75) = (10, 7)) <|
  let n77 : Nat := mN s75
  let s78 : Sg := uN s75
  f_ck (zl_at s78 46 6) <|
  let s80 : Sg := uR s78 46 31 (some n77)
  f_ck (zn_SH (mN s80) = (10, 7)) <|
  let n82 : Nat := mN s80
  let s83 : Sg := uN s80
  f_ck (zl_at s83 46 6) <|
  let s85 : Sg := uR s83 46 32 (some n82)
  f_Mo_init_b142   s85
theorem w_Mo_init_b110 {s : Sg} {d : Nat} {Q : Option (Option Value) → Sg → Prop} (hd : 2 ≤ d) (h : okx (zq_V Q) (f_Mo_init_b110  s)) : Xw d M_Mo_init 20 10940 110 [.ref 46] [] s Q := by
  unfold f_Mo_init_b110 at h
  refine xi_aload_n D_Mo_init_110 rfl ?_
  refine xi_bipush (v := 7) D_Mo_init_111 rfl ?_
  obtain ⟨g66, h⟩ := okx_ck h
  refine xi_newa (k := 10) (n := 7) D_Mo_init_113 rfl T_int (by decide) ⟨by decide, by decide, by decide⟩ g66 ⟨by decide, by decide⟩ ?_
  obtain ⟨g69, h⟩ := okx_ck h
  refine xi_putF D_Mo_init_115 F_Mo_51 (g69) ⟨rfl, by decide⟩ ⟨rfl, rfl⟩ rfl ?_
  refine xi_aload_n D_Mo_init_118 rfl ?_
  refine xi_bipush (v := 7) D_Mo_init_119 rfl ?_
  obtain ⟨g71, h⟩ := okx_ck h
  refine xi_newa (k := 10) (n := 7) D_Mo_init_121 rfl T_int (by decide) ⟨by decide, by decide, by decide⟩ g71 ⟨by decide, by decide⟩ ?_
  obtain ⟨g74, h⟩ := okx_ck h
  refine xi_putF D_Mo_init_123 F_Mo_54 (g74) ⟨rfl, by decide⟩ ⟨rfl, rfl⟩ rfl ?_
  refine xi_aload_n D_Mo_init_126 rfl ?_
  refine xi_bipush (v := 7) D_Mo_init_127 rfl ?_
  obtain ⟨g76, h⟩ := okx_ck h
  refine xi_newa (k := 10) (n := 7) D_Mo_init_129 rfl T_int (by decide) ⟨by decide, by decide, by decide⟩ g76 ⟨by decide, by decide⟩ ?_
  obtain ⟨g79, h⟩ := okx_ck h
  refine xi_putF D_Mo_init_131 F_Mo_57 (g79) ⟨rfl, by decide⟩ ⟨rfl, rfl⟩ rfl ?_
  refine xi_aload_n D_Mo_init_134 rfl ?_
  refine xi_bipush (v := 7) D_Mo_init_135 rfl ?_
  obtain ⟨g81, h⟩ := okx_ck h
  refine xi_newa (k := 10) (n := 7) D_Mo_init_137 rfl T_int (by decide) ⟨by decide, by decide, by decide⟩ g81 ⟨by decide, by decide⟩ ?_
  obtain ⟨g84, h⟩ := okx_ck h
  refine xi_putF D_Mo_init_139 F_Mo_60 (g84) ⟨rfl, by decide⟩ ⟨rfl, rfl⟩ rfl ?_
  exact w_Mo_init_b142 (by omega)  h
noncomputable def f_Mo_init_b78  (s : Sg) : Option (Unit × Sg) :=
  f_ck (zn_SH (mN s) = (10, 7)) <|
  let n47 : Nat := mN s
  let s48 : Sg := uN s
  f_ck (zl_at s48 46 6) <|
  let s50 : Sg := uR s48 46 25 (some n47)
  f_ck (zn_SH (mN s50) = (13, 7)) <|
  let n52 : Nat := mN s50
  let s53 : Sg := uN s50
  f_ck (zl_at s53 46 6) <|
  let s55 : Sg := uR s53 46 26 (some n52)
  f_ck (zn_SH (mN s55) = (10, 7)) <|
  let n57 : Nat := mN s55
  let s58 : Sg := uN s55
  f_ck (zl_at s58 46 6) <|
  let s60 : Sg := uR s58 46 27 (some n57)
  f_ck (zn_SH (mN s60) = (10, 7)) <|
  let n62 : Nat := mN s60
  let s63 : Sg := uN s60
  f_ck (zl_at s63 46 6) <|
  let s65 : Sg := uR s63 46 28 (some n62)
  f_Mo_init_b110   s65
theorem w_Mo_init_b78 {s : Sg} {d : Nat} {Q : Option (Option Value) → Sg → Prop} (hd : 2 ≤ d) (h : okx (zq_V Q) (f_Mo_init_b78  s)) : Xw d M_Mo_init 24 10968 78 [.ref 46] [] s Q := by
  unfold f_Mo_init_b78 at h
  refine xi_aload_n D_Mo_init_78 rfl ?_
  refine xi_bipush (v := 7) D_Mo_init_79 rfl ?_
  obtain ⟨g46, h⟩ := okx_ck h
  refine xi_newa (k := 10) (n := 7) D_Mo_init_81 rfl T_int (by decide) ⟨by decide, by decide, by decide⟩ g46 ⟨by decide, by decide⟩ ?_
  obtain ⟨g49, h⟩ := okx_ck h
  refine xi_putF D_Mo_init_83 F_Mo_38 (g49) ⟨rfl, by decide⟩ ⟨rfl, rfl⟩ rfl ?_
  refine xi_aload_n D_Mo_init_86 rfl ?_
  refine xi_bipush (v := 7) D_Mo_init_87 rfl ?_
  obtain ⟨g51, h⟩ := okx_ck h
  refine xi_newa (k := 13) (n := 7) D_Mo_init_89 rfl T_boolean (by decide) ⟨by decide, by decide, by decide⟩ g51 ⟨by decide, by decide⟩ ?_
  obtain ⟨g54, h⟩ := okx_ck h
  refine xi_putF D_Mo_init_91 F_Mo_41 (g54) ⟨rfl, by decide⟩ ⟨rfl, rfl⟩ rfl ?_
  refine xi_aload_n D_Mo_init_94 rfl ?_
  refine xi_bipush (v := 7) D_Mo_init_95 rfl ?_
  obtain ⟨g56, h⟩ := okx_ck h
  refine xi_newa (k := 10) (n := 7) D_Mo_init_97 rfl T_int (by decide) ⟨by decide, by decide, by decide⟩ g56 ⟨by decide, by decide⟩ ?_
  obtain ⟨g59, h⟩ := okx_ck h
  refine xi_putF D_Mo_init_99 F_Mo_45 (g59) ⟨rfl, by decide⟩ ⟨rfl, rfl⟩ rfl ?_
  refine xi_aload_n D_Mo_init_102 rfl ?_
  refine xi_bipush (v := 7) D_Mo_init_103 rfl ?_
  obtain ⟨g61, h⟩ := okx_ck h
  refine xi_newa (k := 10) (n := 7) D_Mo_init_105 rfl T_int (by decide) ⟨by decide, by decide, by decide⟩ g61 ⟨by decide, by decide⟩ ?_
  obtain ⟨g64, h⟩ := okx_ck h
  refine xi_putF D_Mo_init_107 F_Mo_48 (g64) ⟨rfl, by decide⟩ ⟨rfl, rfl⟩ rfl ?_
  exact w_Mo_init_b110 (by omega)  h
noncomputable def f_Mo_init_b45  (s : Sg) : Option (Unit × Sg) :=
  f_ck (zn_SH (mN s) = (10, 16)) <|
  let n27 : Nat := mN s
  let s28 : Sg := uN s
  f_ck (zl_at s28 46 6) <|
  let s30 : Sg := uR s28 46 17 (some n27)
  f_ck (zn_SH (mN s30) = (10, 16)) <|
  let n32 : Nat := mN s30
  let s33 : Sg := uN s30
  f_ck (zl_at s33 46 6) <|
  let s35 : Sg := uR s33 46 18 (some n32)
  f_ck (zn_SH (mN s35) = (10, 16)) <|
  let n37 : Nat := mN s35
  let s38 : Sg := uN s35
  f_ck (zl_at s38 46 6) <|
  let s40 : Sg := uR s38 46 19 (some n37)
  f_ck (zn_SH (mN s40) = (10, 2000)) <|
  let n42 : Nat := mN s40
  let s43 : Sg := uN s40
  f_ck (zl_at s43 46 6) <|
  let s45 : Sg := uR s43 46 20 (some n42)
  f_Mo_init_b78   s45
theorem w_Mo_init_b45 {s : Sg} {d : Nat} {Q : Option (Option Value) → Sg → Prop} (hd : 2 ≤ d) (h : okx (zq_V Q) (f_Mo_init_b45  s)) : Xw d M_Mo_init 28 13016 45 [.ref 46] [] s Q := by
  unfold f_Mo_init_b45 at h
  refine xi_aload_n D_Mo_init_45 rfl ?_
  refine xi_bipush (v := 16) D_Mo_init_46 rfl ?_
  obtain ⟨g26, h⟩ := okx_ck h
  refine xi_newa (k := 10) (n := 16) D_Mo_init_48 rfl T_int (by decide) ⟨by decide, by decide, by decide⟩ g26 ⟨by decide, by decide⟩ ?_
  obtain ⟨g29, h⟩ := okx_ck h
  refine xi_putF D_Mo_init_50 F_Mo_26 (g29) ⟨rfl, by decide⟩ ⟨rfl, rfl⟩ rfl ?_
  refine xi_aload_n D_Mo_init_53 rfl ?_
  refine xi_bipush (v := 16) D_Mo_init_54 rfl ?_
  obtain ⟨g31, h⟩ := okx_ck h
  refine xi_newa (k := 10) (n := 16) D_Mo_init_56 rfl T_int (by decide) ⟨by decide, by decide, by decide⟩ g31 ⟨by decide, by decide⟩ ?_
  obtain ⟨g34, h⟩ := okx_ck h
  refine xi_putF D_Mo_init_58 F_Mo_29 (g34) ⟨rfl, by decide⟩ ⟨rfl, rfl⟩ rfl ?_
  refine xi_aload_n D_Mo_init_61 rfl ?_
  refine xi_bipush (v := 16) D_Mo_init_62 rfl ?_
  obtain ⟨g36, h⟩ := okx_ck h
  refine xi_newa (k := 10) (n := 16) D_Mo_init_64 rfl T_int (by decide) ⟨by decide, by decide, by decide⟩ g36 ⟨by decide, by decide⟩ ?_
  obtain ⟨g39, h⟩ := okx_ck h
  refine xi_putF D_Mo_init_66 F_Mo_32 (g39) ⟨rfl, by decide⟩ ⟨rfl, rfl⟩ rfl ?_
  refine xi_aload_n D_Mo_init_69 rfl ?_
  refine xi_sipush (v := 2000) D_Mo_init_70 rfl ?_
  obtain ⟨g41, h⟩ := okx_ck h
  refine xi_newa (k := 10) (n := 2000) D_Mo_init_73 rfl T_int (by decide) ⟨by decide, by decide, by decide⟩ g41 ⟨by decide, by decide⟩ ?_
  obtain ⟨g44, h⟩ := okx_ck h
  refine xi_putF D_Mo_init_75 F_Mo_35 (g44) ⟨rfl, by decide⟩ ⟨rfl, rfl⟩ rfl ?_
  exact w_Mo_init_b78 (by omega)  h
noncomputable def f_Mo_init  (s : Sg) : Option (Unit × Sg) :=
  f_ck (zn_SH (mN s) = (10, 1000)) <|
  let n2 : Nat := mN s
  let s3 : Sg := uN s
  f_ck (zl_at s3 46 6) <|
  let s5 : Sg := uR s3 46 2 (some n2)
  f_ck (zn_SH (mN s5) = (11, 14)) <|
  let n7 : Nat := mN s5
  let s8 : Sg := uN s5
  f_ck (zl_at s8 46 6) <|
  let s10 : Sg := uR s8 46 13 (some n7)
  f_ck (zn_SH (mN s10) = (10, 8)) <|
  let n12 : Nat := mN s10
  let s13 : Sg := uN s10
  f_ck (zl_at s13 46 6) <|
  let s15 : Sg := uR s13 46 14 (some n12)
  f_ck (zn_SH (mN s15) = (10, 32)) <|
  let n17 : Nat := mN s15
  let s18 : Sg := uN s15
  f_ck (zl_at s18 46 6) <|
  let s20 : Sg := uR s18 46 15 (some n17)
  f_ck (zn_SH (mN s20) = (10, 16)) <|
  let n22 : Nat := mN s20
  let s23 : Sg := uN s20
  f_ck (zl_at s23 46 6) <|
  let s25 : Sg := uR s23 46 16 (some n22)
  f_Mo_init_b45   s25
theorem w_Mo_init {s : Sg} {d : Nat} {Q : Option (Option Value) → Sg → Prop} (hd : 2 ≤ d) (h : okx (zq_V Q) (f_Mo_init  s)) : Cw d M_Mo_init [.ref 46] s Q := by
  refine Cw.of (by decide +kernel) (Nat.le_of_ble_eq_true rfl) ?_
  show Xw d M_Mo_init 33 14086 0 [.ref 46] [] s _
  unfold f_Mo_init at h
  refine xi_aload_n D_Mo_init_0 rfl ?_
  refine xi_objInit D_Mo_init_1 L_Mo_1 ⟨by omega, Nat.le_of_ble_eq_true rfl⟩ ?_
  refine xi_aload_n D_Mo_init_4 rfl ?_
  refine xi_sipush (v := 1000) D_Mo_init_5 rfl ?_
  obtain ⟨g1, h⟩ := okx_ck h
  refine xi_newa (k := 10) (n := 1000) D_Mo_init_8 rfl T_int (by decide) ⟨by decide, by decide, by decide⟩ g1 ⟨by decide, by decide⟩ ?_
  obtain ⟨g4, h⟩ := okx_ck h
  refine xi_putF D_Mo_init_10 F_Mo_7 (g4) ⟨rfl, by decide⟩ ⟨rfl, rfl⟩ rfl ?_
  refine xi_aload_n D_Mo_init_13 rfl ?_
  refine xi_bipush (v := 14) D_Mo_init_14 rfl ?_
  obtain ⟨g6, h⟩ := okx_ck h
  refine xi_newa (k := 11) (n := 14) D_Mo_init_16 rfl T_long (by decide) ⟨by decide, by decide, by decide⟩ g6 ⟨by decide, by decide⟩ ?_
  obtain ⟨g9, h⟩ := okx_ck h
  refine xi_putF D_Mo_init_18 F_Mo_13 (g9) ⟨rfl, by decide⟩ ⟨rfl, rfl⟩ rfl ?_
  refine xi_aload_n D_Mo_init_21 rfl ?_
  refine xi_bipush (v := 8) D_Mo_init_22 rfl ?_
  obtain ⟨g11, h⟩ := okx_ck h
  refine xi_newa (k := 10) (n := 8) D_Mo_init_24 rfl T_int (by decide) ⟨by decide, by decide, by decide⟩ g11 ⟨by decide, by decide⟩ ?_
  obtain ⟨g14, h⟩ := okx_ck h
  refine xi_putF D_Mo_init_26 F_Mo_17 (g14) ⟨rfl, by decide⟩ ⟨rfl, rfl⟩ rfl ?_
  refine xi_aload_n D_Mo_init_29 rfl ?_
  refine xi_bipush (v := 32) D_Mo_init_30 rfl ?_
  obtain ⟨g16, h⟩ := okx_ck h
  refine xi_newa (k := 10) (n := 32) D_Mo_init_32 rfl T_int (by decide) ⟨by decide, by decide, by decide⟩ g16 ⟨by decide, by decide⟩ ?_
  obtain ⟨g19, h⟩ := okx_ck h
  refine xi_putF D_Mo_init_34 F_Mo_20 (g19) ⟨rfl, by decide⟩ ⟨rfl, rfl⟩ rfl ?_
  refine xi_aload_n D_Mo_init_37 rfl ?_
  refine xi_bipush (v := 16) D_Mo_init_38 rfl ?_
  obtain ⟨g21, h⟩ := okx_ck h
  refine xi_newa (k := 10) (n := 16) D_Mo_init_40 rfl T_int (by decide) ⟨by decide, by decide, by decide⟩ g21 ⟨by decide, by decide⟩ ?_
  obtain ⟨g24, h⟩ := okx_ck h
  refine xi_putF D_Mo_init_42 F_Mo_23 (g24) ⟨rfl, by decide⟩ ⟨rfl, rfl⟩ rfl ?_
  exact w_Mo_init_b45 (by omega)  h
noncomputable def f_Ow_init (a0 : Nat) (s : Sg) : Option (Unit × Sg) :=
  f_ck (zn_SH (mN s) = (10, 3)) <|
  let n2 : Nat := mN s
  let s3 : Sg := uN s
  f_ck (zl_at s3 a0 0) <|
  let s5 : Sg := uR s3 a0 0 (some n2)
  f_ck (zn_SH (mN s5) = (10, 3)) <|
  let n7 : Nat := mN s5
  let s8 : Sg := uN s5
  f_ck (zl_at s8 a0 0) <|
  let s10 : Sg := uR s8 a0 1 (some n7)
  f_ck (zn_SH (mN s10) = (10, 16)) <|
  let n12 : Nat := mN s10
  let s13 : Sg := uN s10
  f_ck (zl_at s13 a0 0) <|
  let s15 : Sg := uR s13 a0 2 (some n12)
  f_ck (zn_SH (mN s15) = (10, 16)) <|
  let n17 : Nat := mN s15
  let s18 : Sg := uN s15
  f_ck (zl_at s18 a0 0) <|
  let s20 : Sg := uR s18 a0 3 (some n17)
  some ((), s20)
theorem w_Ow_init {a0 : Nat} {s : Sg} {d : Nat} {Q : Option (Option Value) → Sg → Prop} (hd : 2 ≤ d) (h : okx (zq_V Q) (f_Ow_init a0 s)) : Cw d M_Ow_init [.ref a0] s Q := by
  refine Cw.of (by decide +kernel) (Nat.le_of_ble_eq_true rfl) ?_
  show Xw d M_Ow_init 4 38 0 [.ref a0] [] s _
  unfold f_Ow_init at h
  refine xi_aload_n D_Ow_init_0 rfl ?_
  refine xi_objInit D_Ow_init_1 L_Ow_3 ⟨by omega, Nat.le_of_ble_eq_true rfl⟩ ?_
  refine xi_aload_n D_Ow_init_4 rfl ?_
  refine xj_iconst (v := 3) D_Ow_init_5 rfl ?_
  obtain ⟨g1, h⟩ := okx_ck h
  refine xi_newa (k := 10) (n := 3) D_Ow_init_6 rfl T_int (by decide) ⟨by decide, by decide, by decide⟩ g1 ⟨by decide, by decide⟩ ?_
  obtain ⟨g4, h⟩ := okx_ck h
  refine xi_putF D_Ow_init_8 F_Ow_9 (g4) ⟨rfl, by decide⟩ ⟨rfl, rfl⟩ rfl ?_
  refine xi_aload_n D_Ow_init_11 rfl ?_
  refine xj_iconst (v := 3) D_Ow_init_12 rfl ?_
  obtain ⟨g6, h⟩ := okx_ck h
  refine xi_newa (k := 10) (n := 3) D_Ow_init_13 rfl T_int (by decide) ⟨by decide, by decide, by decide⟩ g6 ⟨by decide, by decide⟩ ?_
  obtain ⟨g9, h⟩ := okx_ck h
  refine xi_putF D_Ow_init_15 F_Ow_15 (g9) ⟨rfl, by decide⟩ ⟨rfl, rfl⟩ rfl ?_
  refine xi_aload_n D_Ow_init_18 rfl ?_
  refine xi_bipush (v := 16) D_Ow_init_19 rfl ?_
  obtain ⟨g11, h⟩ := okx_ck h
  refine xi_newa (k := 10) (n := 16) D_Ow_init_21 rfl T_int (by decide) ⟨by decide, by decide, by decide⟩ g11 ⟨by decide, by decide⟩ ?_
  obtain ⟨g14, h⟩ := okx_ck h
  refine xi_putF D_Ow_init_23 F_Ow_18 (g14) ⟨rfl, by decide⟩ ⟨rfl, rfl⟩ rfl ?_
  refine xi_aload_n D_Ow_init_26 rfl ?_
  refine xi_bipush (v := 16) D_Ow_init_27 rfl ?_
  obtain ⟨g16, h⟩ := okx_ck h
  refine xi_newa (k := 10) (n := 16) D_Ow_init_29 rfl T_int (by decide) ⟨by decide, by decide, by decide⟩ g16 ⟨by decide, by decide⟩ ?_
  obtain ⟨g19, h⟩ := okx_ck h
  refine xi_putF D_Ow_init_31 F_Ow_21 (g19) ⟨rfl, by decide⟩ ⟨rfl, rfl⟩ rfl ?_
  exact xi_return D_Ow_init_34 rfl (okx_V h)
noncomputable def f_Rd_init  (s : Sg) : Option (Unit × Sg) :=
  f_ck (zn_SH (mN s) = (12, 1000)) <|
  let n2 : Nat := mN s
  let s3 : Sg := uN s
  f_ck (zl_at s3 42 1) <|
  let s5 : Sg := uR s3 42 0 (some n2)
  f_ck (zn_SH (mN s5) = (11, 7)) <|
  let n7 : Nat := mN s5
  let s8 : Sg := uN s5
  f_ck (zl_at s8 42 1) <|
  let s10 : Sg := uR s8 42 1 (some n7)
  some ((), s10)
theorem w_Rd_init {s : Sg} {d : Nat} {Q : Option (Option Value) → Sg → Prop} (hd : 2 ≤ d) (h : okx (zq_V Q) (f_Rd_init  s)) : Cw d M_Rd_init [.ref 42] s Q := by
  refine Cw.of (by decide +kernel) (Nat.le_of_ble_eq_true rfl) ?_
  show Xw d M_Rd_init 2 1007 0 [.ref 42] [] s _
  unfold f_Rd_init at h
  refine xi_aload_n D_Rd_init_0 rfl ?_
  refine xi_objInit D_Rd_init_1 L_Rd_3 ⟨by omega, Nat.le_of_ble_eq_true rfl⟩ ?_
  refine xi_aload_n D_Rd_init_4 rfl ?_
  refine xi_sipush (v := 1000) D_Rd_init_5 rfl ?_
  obtain ⟨g1, h⟩ := okx_ck h
  refine xi_newa (k := 12) (n := 1000) D_Rd_init_8 rfl T_char (by decide) ⟨by decide, by decide, by decide⟩ g1 ⟨by decide, by decide⟩ ?_
  obtain ⟨g4, h⟩ := okx_ck h
  refine xi_putF D_Rd_init_10 F_Rd_9 (g4) ⟨rfl, by decide⟩ ⟨rfl, rfl⟩ rfl ?_
  refine xi_aload_n D_Rd_init_13 rfl ?_
  refine xi_bipush (v := 7) D_Rd_init_14 rfl ?_
  obtain ⟨g6, h⟩ := okx_ck h
  refine xi_newa (k := 11) (n := 7) D_Rd_init_16 rfl T_long (by decide) ⟨by decide, by decide, by decide⟩ g6 ⟨by decide, by decide⟩ ?_
  obtain ⟨g9, h⟩ := okx_ck h
  refine xi_putF D_Rd_init_18 F_Rd_15 (g9) ⟨rfl, by decide⟩ ⟨rfl, rfl⟩ rfl ?_
  exact xi_return D_Rd_init_21 rfl (okx_V h)
noncomputable def f_Wo_init  (s : Sg) : Option (Unit × Sg) :=
  f_ck ((zn_SH (mN s)).1 = 2) <|
  let n2 : Nat := mN s
  let s3 : Sg := uN s
  f_bd (f_To_init n2 s3) fun r4 s5 =>
  f_ck (zl_at s5 6 4) <|
  let s7 : Sg := uR s5 6 0 (some n2)
  f_ck (zn_SH (mN s7) = (10, 32768)) <|
  let n9 : Nat := mN s7
  let s10 : Sg := uN s7
  f_ck (zl_at s10 6 4) <|
  let s12 : Sg := uR s10 6 1 (some n9)
  f_ck (zn_SH (mN s12) = (10, 256)) <|
  let n14 : Nat := mN s12
  let s15 : Sg := uN s12
  f_ck (zl_at s15 6 4) <|
  let s17 : Sg := uR s15 6 2 (some n14)
  f_ck (zn_SH (mN s17) = (11, 8)) <|
  let n19 : Nat := mN s17
  let s20 : Sg := uN s17
  f_ck (zl_at s20 6 4) <|
  let s22 : Sg := uR s20 6 3 (some n19)
  f_ck (zn_SH (mN s22) = (10, 32)) <|
  let n24 : Nat := mN s22
  let s25 : Sg := uN s22
  f_ck (zl_at s25 6 4) <|
  let s27 : Sg := uR s25 6 4 (some n24)
  f_ck (zl_at s27 6 4) <|
  let s29 : Sg := uI s27 6 5 1
  f_ck (zl_at s29 6 4) <|
  let s31 : Sg := uI s29 6 6 (-1)
  f_ck (zl_at s31 6 4) <|
  let s33 : Sg := uI s31 6 7 10
  some ((), s33)
theorem w_Wo_init {s : Sg} {d : Nat} {Q : Option (Option Value) → Sg → Prop} (hd : 3 ≤ d) (h : okx (zq_V Q) (f_Wo_init  s)) : Cw d M_Wo_init [.ref 6] s Q := by
  refine Cw.of (by decide +kernel) (Nat.le_of_ble_eq_true rfl) ?_
  show Xw d M_Wo_init 14 34128 0 [.ref 6] [] s _
  unfold f_Wo_init at h
  refine xi_aload_n D_Wo_init_0 rfl ?_
  refine xi_objInit D_Wo_init_1 L_Wo_3 ⟨by omega, Nat.le_of_ble_eq_true rfl⟩ ?_
  refine xi_aload_n D_Wo_init_4 rfl ?_
  obtain ⟨g1, h⟩ := okx_ck h
  refine xi_new (k := 2) D_Wo_init_5 J_Wo_9 T_To.1 T_To.2 (by decide) g1 ⟨by decide, by decide⟩ ?_
  refine xi_dupr D_Wo_init_8 ?_
  refine xi_I D_Wo_init_9 L_Wo_11 C_To_init.1 C_To_init.2.1 ⟨Nat.le_of_ble_eq_true rfl, C_To_init.2.2, (Nat.le_of_eq (Nat.sub_add_cancel (by omega))), by decide, by decide⟩ (w_To_init (by omega) (okx_mono (okx_bd h) ?_))
  intro r4 s5 h
  show Xw _ _ _ _ 12 _ [_, _] _ _
  obtain ⟨g6, h⟩ := okx_ck h
  refine xi_putF D_Wo_init_12 F_Wo_12 (g6) ⟨rfl, by decide⟩ ⟨rfl, rfl⟩ rfl ?_
  refine xi_aload_n D_Wo_init_15 rfl ?_
  refine xi_ldc D_Wo_init_16 K_Wo_18 ?_
  obtain ⟨g8, h⟩ := okx_ck h
  refine xi_newa (k := 10) (n := 32768) D_Wo_init_18 rfl T_int (by decide) ⟨by decide, by decide, by decide⟩ g8 ⟨by decide, by decide⟩ ?_
  obtain ⟨g11, h⟩ := okx_ck h
  refine xi_putF D_Wo_init_20 F_Wo_19 (g11) ⟨rfl, by decide⟩ ⟨rfl, rfl⟩ rfl ?_
  refine xi_aload_n D_Wo_init_23 rfl ?_
  refine xi_sipush (v := 256) D_Wo_init_24 rfl ?_
  obtain ⟨g13, h⟩ := okx_ck h
  refine xi_newa (k := 10) (n := 256) D_Wo_init_27 rfl T_int (by decide) ⟨by decide, by decide, by decide⟩ g13 ⟨by decide, by decide⟩ ?_
  obtain ⟨g16, h⟩ := okx_ck h
  refine xi_putF D_Wo_init_29 F_Wo_23 (g16) ⟨rfl, by decide⟩ ⟨rfl, rfl⟩ rfl ?_
  refine xi_aload_n D_Wo_init_32 rfl ?_
  refine xi_bipush (v := 8) D_Wo_init_33 rfl ?_
  obtain ⟨g18, h⟩ := okx_ck h
  refine xi_newa (k := 11) (n := 8) D_Wo_init_35 rfl T_long (by decide) ⟨by decide, by decide, by decide⟩ g18 ⟨by decide, by decide⟩ ?_
  obtain ⟨g21, h⟩ := okx_ck h
  refine xi_putF D_Wo_init_37 F_Wo_26 (g21) ⟨rfl, by decide⟩ ⟨rfl, rfl⟩ rfl ?_
  refine xi_aload_n D_Wo_init_40 rfl ?_
  refine xi_bipush (v := 32) D_Wo_init_41 rfl ?_
  obtain ⟨g23, h⟩ := okx_ck h
  refine xi_newa (k := 10) (n := 32) D_Wo_init_43 rfl T_int (by decide) ⟨by decide, by decide, by decide⟩ g23 ⟨by decide, by decide⟩ ?_
  obtain ⟨g26, h⟩ := okx_ck h
  refine xi_putF D_Wo_init_45 F_Wo_30 (g26) ⟨rfl, by decide⟩ ⟨rfl, rfl⟩ rfl ?_
  refine xi_aload_n D_Wo_init_48 rfl ?_
  refine xj_iconst (v := 1) D_Wo_init_49 rfl ?_
  obtain ⟨g28, h⟩ := okx_ck h
  refine xi_putI D_Wo_init_50 F_Wo_33 (g28) ⟨rfl, by decide, rfl⟩ (⟨rfl, rfl⟩) ?_
  refine xi_aload_n D_Wo_init_53 rfl ?_
  refine xj_iconst (v := (-1)) D_Wo_init_54 rfl ?_
  obtain ⟨g30, h⟩ := okx_ck h
  refine xi_putI D_Wo_init_55 F_Wo_37 (g30) ⟨rfl, by decide, rfl⟩ (⟨rfl, rfl⟩) ?_
  refine xi_aload_n D_Wo_init_58 rfl ?_
  refine xi_bipush (v := 10) D_Wo_init_59 rfl ?_
  obtain ⟨g32, h⟩ := okx_ck h
  refine xi_putI D_Wo_init_61 F_Wo_40 (g32) ⟨rfl, by decide, rfl⟩ (⟨rfl, rfl⟩) ?_
  exact xi_return D_Wo_init_64 rfl (okx_V h)
noncomputable def f_Tu_init  (s : Sg) : Option (Unit × Sg) :=
  f_ck ((zn_SH (mN s)).1 = 4) <|
  f_ck (mN s = 6) <|
  let s4 : Sg := uN s
  f_bd (f_Wo_init  s4) fun r5 s6 =>
  f_ck (zl_at s6 5 3) <|
  let s8 : Sg := uR s6 5 0 (some 6)
  f_ck (zl_at s8 5 3) <|
  f_ck (mR s8 5 0 = some 6) <|
  f_ck (zl_at s8 6 4) <|
  f_ck (mR s8 6 0 = some 7) <|
  f_ck (zl_at s8 5 3) <|
  let s14 : Sg := uR s8 5 1 (some 7)
  f_ck ((zn_SH (mN s14)).1 = 0) <|
  let n16 : Nat := mN s14
  let s17 : Sg := uN s14
  f_bd (f_Ow_init n16 s17) fun r18 s19 =>
  f_ck (zl_at s19 5 3) <|
  let s21 : Sg := uR s19 5 2 (some n16)
  f_ck ((zn_SH (mN s21)).1 = 0) <|
  let n23 : Nat := mN s21
  let s24 : Sg := uN s21
  f_bd (f_Ow_init n23 s24) fun r25 s26 =>
  f_ck (zl_at s26 5 3) <|
  let s28 : Sg := uR s26 5 3 (some n23)
  some ((), s28)
theorem w_Tu_init {s : Sg} {d : Nat} {Q : Option (Option Value) → Sg → Prop} (hd : 4 ≤ d) (h : okx (zq_V Q) (f_Tu_init  s)) : Cw d M_Tu_init [.ref 5] s Q := by
  refine Cw.of (by decide +kernel) (Nat.le_of_ble_eq_true rfl) ?_
  show Xw d M_Tu_init 25 34220 0 [.ref 5] [] s _
  unfold f_Tu_init at h
  refine xi_aload_n D_Tu_init_0 rfl ?_
  refine xi_objInit D_Tu_init_1 L_Tu_3 ⟨by omega, Nat.le_of_ble_eq_true rfl⟩ ?_
  refine xi_aload_n D_Tu_init_4 rfl ?_
  obtain ⟨g1, h⟩ := okx_ck h
  refine xi_new (k := 4) D_Tu_init_5 J_Tu_9 T_Wo.1 T_Wo.2 (by decide) g1 ⟨by decide, by decide⟩ ?_
  obtain ⟨g3, h⟩ := okx_ck h
  rw [g3]
  refine xi_dupr D_Tu_init_8 ?_
  refine xi_IN D_Tu_init_9 L_Tu_11 C_Wo_init.1 C_Wo_init.2.1 ⟨Nat.le_of_ble_eq_true rfl, C_Wo_init.2.2, (Nat.le_of_eq (Nat.sub_add_cancel (by omega))), by decide, by decide⟩ (w_Wo_init (by omega) (okx_mono (okx_bd h) ?_))
  intro r5 s6 h
  show Xw _ _ _ _ 12 _ [_, _] _ _
  obtain ⟨g7, h⟩ := okx_ck h
  refine xi_putF D_Tu_init_12 F_Tu_12 (g7) ⟨rfl, by decide⟩ ⟨rfl, rfl⟩ rfl ?_
  refine xi_aload_n D_Tu_init_15 rfl ?_
  refine xi_aload_n D_Tu_init_16 rfl ?_
  obtain ⟨g9, h⟩ := okx_ck h
  obtain ⟨g10, h⟩ := okx_ck h
  refine xi_getR D_Tu_init_17 F_Tu_12 (g9) ⟨rfl, by decide⟩ (g10) ?_
  obtain ⟨g11, h⟩ := okx_ck h
  obtain ⟨g12, h⟩ := okx_ck h
  refine xi_getR D_Tu_init_20 F_Tu_18 (g11) ⟨rfl, by decide⟩ (g12) ?_
  obtain ⟨g13, h⟩ := okx_ck h
  refine xi_putF D_Tu_init_23 F_Tu_22 (g13) ⟨rfl, by decide⟩ ⟨rfl, rfl⟩ rfl ?_
  refine xi_aload_n D_Tu_init_26 rfl ?_
  obtain ⟨g15, h⟩ := okx_ck h
  refine xi_new (k := 0) D_Tu_init_27 J_Tu_23 T_Ow.1 T_Ow.2 (by decide) g15 ⟨by decide, by decide⟩ ?_
  refine xi_dupr D_Tu_init_30 ?_
  refine xi_IN D_Tu_init_31 L_Tu_25 C_Ow_init.1 C_Ow_init.2.1 ⟨Nat.le_of_ble_eq_true rfl, C_Ow_init.2.2, (Nat.le_of_eq (Nat.sub_add_cancel (by omega))), by decide, by decide⟩ (w_Ow_init (by omega) (okx_mono (okx_bd h) ?_))
  intro r18 s19 h
  show Xw _ _ _ _ 34 _ [_, _] _ _
  obtain ⟨g20, h⟩ := okx_ck h
  refine xi_putF D_Tu_init_34 F_Tu_26 (g20) ⟨rfl, by decide⟩ ⟨rfl, rfl⟩ rfl ?_
  refine xi_aload_n D_Tu_init_37 rfl ?_
  obtain ⟨g22, h⟩ := okx_ck h
  refine xi_new (k := 0) D_Tu_init_38 J_Tu_23 T_Ow.1 T_Ow.2 (by decide) g22 ⟨by decide, by decide⟩ ?_
  refine xi_dupr D_Tu_init_41 ?_
  refine xi_IN D_Tu_init_42 L_Tu_25 C_Ow_init.1 C_Ow_init.2.1 ⟨Nat.le_of_ble_eq_true rfl, C_Ow_init.2.2, (Nat.le_of_eq (Nat.sub_add_cancel (by omega))), by decide, by decide⟩ (w_Ow_init (by omega) (okx_mono (okx_bd h) ?_))
  intro r25 s26 h
  show Xw _ _ _ _ 45 _ [_, _] _ _
  obtain ⟨g27, h⟩ := okx_ck h
  refine xi_putF D_Tu_init_45 F_Tu_30 (g27) ⟨rfl, by decide⟩ ⟨rfl, rfl⟩ rfl ?_
  exact xi_return D_Tu_init_48 rfl (okx_V h)
noncomputable def f_Wk_init  (s : Sg) : Option (Unit × Sg) :=
  f_ck ((zn_SH (mN s)).1 = 3) <|
  f_ck (mN s = 5) <|
  let s4 : Sg := uN s
  f_bd (f_Tu_init  s4) fun r5 s6 =>
  f_ck (zl_at s6 4 5) <|
  let s8 : Sg := uR s6 4 0 (some 5)
  f_ck (zl_at s8 4 5) <|
  f_ck (mR s8 4 0 = some 5) <|
  f_ck (zl_at s8 5 3) <|
  f_ck (mR s8 5 0 = some 6) <|
  f_ck (zl_at s8 4 5) <|
  let s14 : Sg := uR s8 4 1 (some 6)
  f_ck (zl_at s14 4 5) <|
  f_ck (mR s14 4 1 = some 6) <|
  f_ck (zl_at s14 6 4) <|
  f_ck (mR s14 6 0 = some 7) <|
  f_ck (zl_at s14 4 5) <|
  let s20 : Sg := uR s14 4 2 (some 7)
  f_ck ((zn_SH (mN s20)).1 = 2) <|
  let n22 : Nat := mN s20
  let s23 : Sg := uN s20
  f_bd (f_To_init n22 s23) fun r24 s25 =>
  f_ck (zl_at s25 4 5) <|
  let s27 : Sg := uR s25 4 3 (some n22)
  f_ck (zn_SH (mN s27) = (14, 4)) <|
  let n29 : Nat := mN s27
  let s30 : Sg := uN s27
  f_ck (zl_at s30 4 5) <|
  let s32 : Sg := uR s30 4 4 (some n29)
  f_ck ((zn_SH (mN s32)).1 = 1) <|
  f_ck (mN s32 = 42) <|
  let s36 : Sg := uN s32
  f_bd (f_Rd_init  s36) fun r37 s38 =>
  f_ck (zl_at s38 4 5) <|
  let s40 : Sg := uR s38 4 5 (some 42)
  f_ck (zn_SH (mN s40) = (10, 216)) <|
  let n42 : Nat := mN s40
  let s43 : Sg := uN s40
  f_ck (zl_at s43 4 5) <|
  let s45 : Sg := uR s43 4 6 (some n42)
  f_ck (zl_at s45 4 5) <|
  f_bd (f_Wk_forgetPlain  s45) fun r47 s48 =>
  some ((), s48)
theorem w_Wk_init {s : Sg} {d : Nat} {Q : Option (Option Value) → Sg → Prop} (hd : 5 ≤ d) (h : okx (zq_V Q) (f_Wk_init  s)) : Cw d M_Wk_init [.ref 4] s Q := by
  refine Cw.of (by decide +kernel) (Nat.le_of_ble_eq_true rfl) ?_
  show Xw d M_Wk_init 41 36531 0 [.ref 4] [] s _
  unfold f_Wk_init at h
  refine xi_aload_n D_Wk_init_0 rfl ?_
  refine xi_objInit D_Wk_init_1 L_Wk_3 ⟨by omega, Nat.le_of_ble_eq_true rfl⟩ ?_
  refine xi_aload_n D_Wk_init_4 rfl ?_
  obtain ⟨g1, h⟩ := okx_ck h
  refine xi_new (k := 3) D_Wk_init_5 J_Wk_9 T_Tu.1 T_Tu.2 (by decide) g1 ⟨by decide, by decide⟩ ?_
  obtain ⟨g3, h⟩ := okx_ck h
  rw [g3]
  refine xi_dupr D_Wk_init_8 ?_
  refine xi_IN D_Wk_init_9 L_Wk_11 C_Tu_init.1 C_Tu_init.2.1 ⟨Nat.le_of_ble_eq_true rfl, C_Tu_init.2.2, (Nat.le_of_eq (Nat.sub_add_cancel (by omega))), by decide, by decide⟩ (w_Tu_init (by omega) (okx_mono (okx_bd h) ?_))
  intro r5 s6 h
  show Xw _ _ _ _ 12 _ [_, _] _ _
  obtain ⟨g7, h⟩ := okx_ck h
  refine xi_putF D_Wk_init_12 F_Wk_12 (g7) ⟨rfl, by decide⟩ ⟨rfl, rfl⟩ rfl ?_
  refine xi_aload_n D_Wk_init_15 rfl ?_
  refine xi_aload_n D_Wk_init_16 rfl ?_
  obtain ⟨g9, h⟩ := okx_ck h
  obtain ⟨g10, h⟩ := okx_ck h
  refine xi_getR D_Wk_init_17 F_Wk_12 (g9) ⟨rfl, by decide⟩ (g10) ?_
  obtain ⟨g11, h⟩ := okx_ck h
  obtain ⟨g12, h⟩ := okx_ck h
  refine xi_getR D_Wk_init_20 F_Wk_16 (g11) ⟨rfl, by decide⟩ (g12) ?_
  obtain ⟨g13, h⟩ := okx_ck h
  refine xi_putF D_Wk_init_23 F_Wk_20 (g13) ⟨rfl, by decide⟩ ⟨rfl, rfl⟩ rfl ?_
  refine xi_aload_n D_Wk_init_26 rfl ?_
  refine xi_aload_n D_Wk_init_27 rfl ?_
  obtain ⟨g15, h⟩ := okx_ck h
  obtain ⟨g16, h⟩ := okx_ck h
  refine xi_getR D_Wk_init_28 F_Wk_20 (g15) ⟨rfl, by decide⟩ (g16) ?_
  obtain ⟨g17, h⟩ := okx_ck h
  obtain ⟨g18, h⟩ := okx_ck h
  refine xi_getR D_Wk_init_31 F_Wk_21 (g17) ⟨rfl, by decide⟩ (g18) ?_
  obtain ⟨g19, h⟩ := okx_ck h
  refine xi_putF D_Wk_init_34 F_Wk_27 (g19) ⟨rfl, by decide⟩ ⟨rfl, rfl⟩ rfl ?_
  refine xi_aload_n D_Wk_init_37 rfl ?_
  obtain ⟨g21, h⟩ := okx_ck h
  refine xi_new (k := 2) D_Wk_init_38 J_Wk_28 T_To.1 T_To.2 (by decide) g21 ⟨by decide, by decide⟩ ?_
  refine xi_dupr D_Wk_init_41 ?_
  refine xi_I D_Wk_init_42 L_Wk_30 C_To_init.1 C_To_init.2.1 ⟨Nat.le_of_ble_eq_true rfl, C_To_init.2.2, (Nat.le_of_eq (Nat.sub_add_cancel (by omega))), by decide, by decide⟩ (w_To_init (by omega) (okx_mono (okx_bd h) ?_))
  intro r24 s25 h
  show Xw _ _ _ _ 45 _ [_, _] _ _
  obtain ⟨g26, h⟩ := okx_ck h
  refine xi_putF D_Wk_init_45 F_Wk_31 (g26) ⟨rfl, by decide⟩ ⟨rfl, rfl⟩ rfl ?_
  refine xi_aload_n D_Wk_init_48 rfl ?_
  refine xj_iconst (v := 4) D_Wk_init_49 rfl ?_
  obtain ⟨g28, h⟩ := okx_ck h
  refine xi_newq (n := 4) D_Wk_init_50 J_Wk_28 ⟨by decide, by decide, by decide⟩ g28 ⟨by decide, by decide⟩ ?_
  obtain ⟨g31, h⟩ := okx_ck h
  refine xi_putF D_Wk_init_53 F_Wk_34 (g31) ⟨rfl, by decide⟩ ⟨rfl, rfl⟩ rfl ?_
  refine xi_aload_n D_Wk_init_56 rfl ?_
  obtain ⟨g33, h⟩ := okx_ck h
  refine xi_new (k := 1) D_Wk_init_57 J_Wk_38 T_Rd.1 T_Rd.2 (by decide) g33 ⟨by decide, by decide⟩ ?_
  obtain ⟨g35, h⟩ := okx_ck h
  rw [g35]
  refine xi_dupr D_Wk_init_60 ?_
  refine xi_IN D_Wk_init_61 L_Wk_40 C_Rd_init.1 C_Rd_init.2.1 ⟨Nat.le_of_ble_eq_true rfl, C_Rd_init.2.2, (Nat.le_of_eq (Nat.sub_add_cancel (by omega))), by decide, by decide⟩ (w_Rd_init (by omega) (okx_mono (okx_bd h) ?_))
  intro r37 s38 h
  show Xw _ _ _ _ 64 _ [_, _] _ _
  obtain ⟨g39, h⟩ := okx_ck h
  refine xi_putF D_Wk_init_64 F_Wk_41 (g39) ⟨rfl, by decide⟩ ⟨rfl, rfl⟩ rfl ?_
  refine xi_aload_n D_Wk_init_67 rfl ?_
  refine xi_sipush (v := 216) D_Wk_init_68 rfl ?_
  obtain ⟨g41, h⟩ := okx_ck h
  refine xi_newa (k := 10) (n := 216) D_Wk_init_71 rfl T_int (by decide) ⟨by decide, by decide, by decide⟩ g41 ⟨by decide, by decide⟩ ?_
  obtain ⟨g44, h⟩ := okx_ck h
  refine xi_putF D_Wk_init_73 F_Wk_45 (g44) ⟨rfl, by decide⟩ ⟨rfl, rfl⟩ rfl ?_
  refine xi_aload_n D_Wk_init_76 rfl ?_
  obtain ⟨g46, h⟩ := okx_ck h
  refine xj_V0 D_Wk_init_77 L_Wk_49 C_Wk_forgetPlain Z_Wk_forgetPlain (g46) (Nat.le_of_ble_eq_true rfl) (Nat.le_of_eq (Nat.sub_add_cancel (by omega))) (w_Wk_forgetPlain (by omega) (okx_mono (okx_bd h) ?_))
  intro r47 s48 h
  show Xw _ _ _ _ 80 _ [] _ _
  exact xi_return D_Wk_init_80 rfl (okx_V h)
