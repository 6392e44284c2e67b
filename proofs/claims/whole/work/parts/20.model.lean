theorem dX12_init_0 : decode cX12_init 0 = .ok (.aload_n 0, 1) := by decide +kernel
theorem dX12_init_1 : decode cX12_init 1 = .ok (.invokespecial 1, 3) := by decide +kernel
theorem dX12_init_4 : decode cX12_init 4 = .ok (.aload_n 0, 1) := by decide +kernel
theorem dX12_init_5 : decode cX12_init 5 = .ok (.bipush 60, 2) := by decide +kernel
theorem dX12_init_7 : decode cX12_init 7 = .ok (.newarray .int, 2) := by decide +kernel
theorem dX12_init_9 : decode cX12_init 9 = .ok (.putfield 7, 3) := by decide +kernel
theorem dX12_init_12 : decode cX12_init 12 = .ok (.aload_n 0, 1) := by decide +kernel
theorem dX12_init_13 : decode cX12_init 13 = .ok (.bipush 60, 2) := by decide +kernel
theorem dX12_init_15 : decode cX12_init 15 = .ok (.newarray .int, 2) := by decide +kernel
theorem dX12_init_17 : decode cX12_init 17 = .ok (.putfield 13, 3) := by decide +kernel
theorem dX12_init_20 : decode cX12_init 20 = .ok (.aload_n 0, 1) := by decide +kernel
theorem dX12_init_21 : decode cX12_init 21 = .ok (.bipush 60, 2) := by decide +kernel
theorem dX12_init_23 : decode cX12_init 23 = .ok (.newarray .boolean, 2) := by decide +kernel
theorem dX12_init_25 : decode cX12_init 25 = .ok (.putfield 16, 3) := by decide +kernel
theorem dX12_init_28 : decode cX12_init 28 = .ok (.aload_n 0, 1) := by decide +kernel
theorem dX12_init_29 : decode cX12_init 29 = .ok (.sipush 1200, 3) := by decide +kernel
theorem dX12_init_32 : decode cX12_init 32 = .ok (.newarray .long, 2) := by decide +kernel
theorem dX12_init_34 : decode cX12_init 34 = .ok (.putfield 20, 3) := by decide +kernel
theorem dX12_init_37 : decode cX12_init 37 = .ok (.aload_n 0, 1) := by decide +kernel
theorem dX12_init_38 : decode cX12_init 38 = .ok (.bipush 20, 2) := by decide +kernel
theorem dX12_init_40 : decode cX12_init 40 = .ok (.newarray .long, 2) := by decide +kernel
theorem dX12_init_42 : decode cX12_init 42 = .ok (.putfield 24, 3) := by decide +kernel
theorem dX12_init_45 : decode cX12_init 45 = .ok (.aload_n 0, 1) := by decide +kernel
theorem dX12_init_46 : decode cX12_init 46 = .ok (.bipush 16, 2) := by decide +kernel
theorem dX12_init_48 : decode cX12_init 48 = .ok (.newarray .boolean, 2) := by decide +kernel
theorem dX12_init_50 : decode cX12_init 50 = .ok (.putfield 27, 3) := by decide +kernel
theorem dX12_init_53 : decode cX12_init 53 = .ok (.aload_n 0, 1) := by decide +kernel
theorem dX12_init_54 : decode cX12_init 54 = .ok (.bipush 16, 2) := by decide +kernel
theorem dX12_init_56 : decode cX12_init 56 = .ok (.newarray .int, 2) := by decide +kernel
theorem dX12_init_58 : decode cX12_init 58 = .ok (.putfield 30, 3) := by decide +kernel
theorem dX12_init_61 : decode cX12_init 61 = .ok (.aload_n 0, 1) := by decide +kernel
theorem dX12_init_62 : decode cX12_init 62 = .ok (.bipush 16, 2) := by decide +kernel
theorem dX12_init_64 : decode cX12_init 64 = .ok (.newarray .boolean, 2) := by decide +kernel
theorem dX12_init_66 : decode cX12_init 66 = .ok (.putfield 33, 3) := by decide +kernel
theorem dX12_init_69 : decode cX12_init 69 = .ok (.aload_n 0, 1) := by decide +kernel
theorem dX12_init_70 : decode cX12_init 70 = .ok (.bipush 16, 2) := by decide +kernel
theorem dX12_init_72 : decode cX12_init 72 = .ok (.newarray .int, 2) := by decide +kernel
theorem dX12_init_74 : decode cX12_init 74 = .ok (.putfield 36, 3) := by decide +kernel
theorem dX12_init_77 : decode cX12_init 77 = .ok (.aload_n 0, 1) := by decide +kernel
theorem dX12_init_78 : decode cX12_init 78 = .ok (.bipush 16, 2) := by decide +kernel
theorem dX12_init_80 : decode cX12_init 80 = .ok (.newarray .int, 2) := by decide +kernel
theorem dX12_init_82 : decode cX12_init 82 = .ok (.putfield 39, 3) := by decide +kernel
theorem dX12_init_85 : decode cX12_init 85 = .ok (.aload_n 0, 1) := by decide +kernel
theorem dX12_init_86 : decode cX12_init 86 = .ok (.bipush 64, 2) := by decide +kernel
theorem dX12_init_88 : decode cX12_init 88 = .ok (.newarray .int, 2) := by decide +kernel
theorem dX12_init_90 : decode cX12_init 90 = .ok (.putfield 42, 3) := by decide +kernel
theorem dX12_init_93 : decode cX12_init 93 = .ok (.aload_n 0, 1) := by decide +kernel
theorem dX12_init_94 : decode cX12_init 94 = .ok (.sipush 512, 3) := by decide +kernel
theorem dX12_init_97 : decode cX12_init 97 = .ok (.newarray .int, 2) := by decide +kernel
theorem dX12_init_99 : decode cX12_init 99 = .ok (.putfield 45, 3) := by decide +kernel
theorem dX12_init_102 : decode cX12_init 102 = .ok (.aload_n 0, 1) := by decide +kernel
theorem dX12_init_103 : decode cX12_init 103 = .ok (.sipush 512, 3) := by decide +kernel
theorem dX12_init_106 : decode cX12_init 106 = .ok (.newarray .int, 2) := by decide +kernel
theorem dX12_init_108 : decode cX12_init 108 = .ok (.putfield 48, 3) := by decide +kernel
theorem dX12_init_111 : decode cX12_init 111 = .ok (.aload_n 0, 1) := by decide +kernel
theorem dX12_init_112 : decode cX12_init 112 = .ok (.sipush 512, 3) := by decide +kernel
theorem dX12_init_115 : decode cX12_init 115 = .ok (.newarray .int, 2) := by decide +kernel
theorem dX12_init_117 : decode cX12_init 117 = .ok (.putfield 51, 3) := by decide +kernel
theorem dX12_init_120 : decode cX12_init 120 = .ok (.aload_n 0, 1) := by decide +kernel
theorem dX12_init_121 : decode cX12_init 121 = .ok (.bipush 8, 2) := by decide +kernel
theorem dX12_init_123 : decode cX12_init 123 = .ok (.newarray .int, 2) := by decide +kernel
theorem dX12_init_125 : decode cX12_init 125 = .ok (.putfield 54, 3) := by decide +kernel
theorem dX12_init_128 : decode cX12_init 128 = .ok (.aload_n 0, 1) := by decide +kernel
theorem dX12_init_129 : decode cX12_init 129 = .ok (.bipush 8, 2) := by decide +kernel
theorem dX12_init_131 : decode cX12_init 131 = .ok (.newarray .boolean, 2) := by decide +kernel
theorem dX12_init_133 : decode cX12_init 133 = .ok (.putfield 57, 3) := by decide +kernel
theorem dX12_init_136 : decode cX12_init 136 = .ok (.aload_n 0, 1) := by decide +kernel
theorem dX12_init_137 : decode cX12_init 137 = .ok (.bipush 6, 2) := by decide +kernel
theorem dX12_init_139 : decode cX12_init 139 = .ok (.newarray .int, 2) := by decide +kernel
theorem dX12_init_141 : decode cX12_init 141 = .ok (.putfield 60, 3) := by decide +kernel
theorem dX12_init_144 : decode cX12_init 144 = .ok (.aload_n 0, 1) := by decide +kernel
theorem dX12_init_145 : decode cX12_init 145 = .ok (.bipush 6, 2) := by decide +kernel
theorem dX12_init_147 : decode cX12_init 147 = .ok (.newarray .long, 2) := by decide +kernel
theorem dX12_init_149 : decode cX12_init 149 = .ok (.putfield 63, 3) := by decide +kernel
theorem dX12_init_152 : decode cX12_init 152 = .ok (.aload_n 0, 1) := by decide +kernel
theorem dX12_init_153 : decode cX12_init 153 = .ok (.sipush 200, 3) := by decide +kernel
theorem dX12_init_156 : decode cX12_init 156 = .ok (.newarray .int, 2) := by decide +kernel
theorem dX12_init_158 : decode cX12_init 158 = .ok (.putfield 66, 3) := by decide +kernel
theorem dX12_init_161 : decode cX12_init 161 = .ok (.aload_n 0, 1) := by decide +kernel
theorem dX12_init_162 : decode cX12_init 162 = .ok (.sipush 200, 3) := by decide +kernel
theorem dX12_init_165 : decode cX12_init 165 = .ok (.newarray .int, 2) := by decide +kernel
theorem dX12_init_167 : decode cX12_init 167 = .ok (.putfield 69, 3) := by decide +kernel
theorem dX12_init_170 : decode cX12_init 170 = .ok (.aload_n 0, 1) := by decide +kernel
theorem dX12_init_171 : decode cX12_init 171 = .ok (.sipush 200, 3) := by decide +kernel
theorem dX12_init_174 : decode cX12_init 174 = .ok (.newarray .int, 2) := by decide +kernel
theorem dX12_init_176 : decode cX12_init 176 = .ok (.putfield 72, 3) := by decide +kernel
theorem dX12_init_179 : decode cX12_init 179 = .ok (.aload_n 0, 1) := by decide +kernel
theorem dX12_init_180 : decode cX12_init 180 = .ok (.sipush 200, 3) := by decide +kernel
theorem dX12_init_183 : decode cX12_init 183 = .ok (.newarray .int, 2) := by decide +kernel
theorem dX12_init_185 : decode cX12_init 185 = .ok (.putfield 75, 3) := by decide +kernel
theorem dX12_init_188 : decode cX12_init 188 = .ok (.aload_n 0, 1) := by decide +kernel
theorem dX12_init_189 : decode cX12_init 189 = .ok (.sipush 200, 3) := by decide +kernel
theorem dX12_init_192 : decode cX12_init 192 = .ok (.newarray .int, 2) := by decide +kernel
theorem dX12_init_194 : decode cX12_init 194 = .ok (.putfield 78, 3) := by decide +kernel
theorem dX12_init_197 : decode cX12_init 197 = .ok (.aload_n 0, 1) := by decide +kernel
theorem dX12_init_198 : decode cX12_init 198 = .ok (.sipush 200, 3) := by decide +kernel
theorem dX12_init_201 : decode cX12_init 201 = .ok (.newarray .int, 2) := by decide +kernel
theorem dX12_init_203 : decode cX12_init 203 = .ok (.putfield 81, 3) := by decide +kernel
theorem dX12_init_206 : decode cX12_init 206 = .ok (.aload_n 0, 1) := by decide +kernel
theorem dX12_init_207 : decode cX12_init 207 = .ok (.sipush 1200, 3) := by decide +kernel
theorem dX12_init_210 : decode cX12_init 210 = .ok (.newarray .long, 2) := by decide +kernel
theorem dX12_init_212 : decode cX12_init 212 = .ok (.putfield 84, 3) := by decide +kernel
theorem dX12_init_215 : decode cX12_init 215 = .ok (.aload_n 0, 1) := by decide +kernel
theorem dX12_init_216 : decode cX12_init 216 = .ok (.bipush 6, 2) := by decide +kernel
theorem dX12_init_218 : decode cX12_init 218 = .ok (.newarray .long, 2) := by decide +kernel
theorem dX12_init_220 : decode cX12_init 220 = .ok (.putfield 87, 3) := by decide +kernel
theorem dX12_init_223 : decode cX12_init 223 = .ok (.aload_n 0, 1) := by decide +kernel
theorem dX12_init_224 : decode cX12_init 224 = .ok (.bipush 12, 2) := by decide +kernel
theorem dX12_init_226 : decode cX12_init 226 = .ok (.newarray .int, 2) := by decide +kernel
theorem dX12_init_228 : decode cX12_init 228 = .ok (.putfield 90, 3) := by decide +kernel
theorem dX12_init_231 : decode cX12_init 231 = .ok (.aload_n 0, 1) := by decide +kernel
theorem dX12_init_232 : decode cX12_init 232 = .ok (.bipush 12, 2) := by decide +kernel
theorem dX12_init_234 : decode cX12_init 234 = .ok (.newarray .int, 2) := by decide +kernel
theorem dX12_init_236 : decode cX12_init 236 = .ok (.putfield 93, 3) := by decide +kernel
theorem dX12_init_239 : decode cX12_init 239 = .ok (.aload_n 0, 1) := by decide +kernel
theorem dX12_init_240 : decode cX12_init 240 = .ok (.bipush 12, 2) := by decide +kernel
theorem dX12_init_242 : decode cX12_init 242 = .ok (.newarray .int, 2) := by decide +kernel
theorem dX12_init_244 : decode cX12_init 244 = .ok (.putfield 96, 3) := by decide +kernel
theorem dX12_init_247 : decode cX12_init 247 = .ok (.aload_n 0, 1) := by decide +kernel
theorem dX12_init_248 : decode cX12_init 248 = .ok (.bipush 12, 2) := by decide +kernel
theorem dX12_init_250 : decode cX12_init 250 = .ok (.newarray .int, 2) := by decide +kernel
theorem dX12_init_252 : decode cX12_init 252 = .ok (.putfield 99, 3) := by decide +kernel
theorem dX12_init_255 : decode cX12_init 255 = .ok (.aload_n 0, 1) := by decide +kernel
theorem dX12_init_256 : decode cX12_init 256 = .ok (.bipush 12, 2) := by decide +kernel
theorem dX12_init_258 : decode cX12_init 258 = .ok (.newarray .int, 2) := by decide +kernel
theorem dX12_init_260 : decode cX12_init 260 = .ok (.putfield 102, 3) := by decide +kernel
theorem dX12_init_263 : decode cX12_init 263 = .ok (.aload_n 0, 1) := by decide +kernel
theorem dX12_init_264 : decode cX12_init 264 = .ok (.bipush 12, 2) := by decide +kernel
theorem dX12_init_266 : decode cX12_init 266 = .ok (.newarray .int, 2) := by decide +kernel
theorem dX12_init_268 : decode cX12_init 268 = .ok (.putfield 105, 3) := by decide +kernel
theorem dX12_init_271 : decode cX12_init 271 = .ok (.aload_n 0, 1) := by decide +kernel
theorem dX12_init_272 : decode cX12_init 272 = .ok (.sipush 4200, 3) := by decide +kernel
theorem dX12_init_275 : decode cX12_init 275 = .ok (.newarray .byte, 2) := by decide +kernel
theorem dX12_init_277 : decode cX12_init 277 = .ok (.putfield 108, 3) := by decide +kernel
theorem dX12_init_280 : decode cX12_init 280 = .ok (.aload_n 0, 1) := by decide +kernel
theorem dX12_init_281 : decode cX12_init 281 = .ok (.sipush 4000, 3) := by decide +kernel
theorem dX12_init_284 : decode cX12_init 284 = .ok (.newarray .byte, 2) := by decide +kernel
theorem dX12_init_286 : decode cX12_init 286 = .ok (.putfield 112, 3) := by decide +kernel
theorem dX12_init_289 : decode cX12_init 289 = .ok (.iconst 0, 1) := by decide +kernel
theorem dX12_init_290 : decode cX12_init 290 = .ok (.istore_n 1, 1) := by decide +kernel
theorem dX12_init_291 : decode cX12_init 291 = .ok (.iload_n 1, 1) := by decide +kernel
theorem dX12_init_292 : decode cX12_init 292 = .ok (.bipush 6, 2) := by decide +kernel
theorem dX12_init_294 : decode cX12_init 294 = .ok (.if_icmp .ge 17, 3) := by decide +kernel
theorem dX12_init_297 : decode cX12_init 297 = .ok (.aload_n 0, 1) := by decide +kernel
theorem dX12_init_298 : decode cX12_init 298 = .ok (.getfield 60, 3) := by decide +kernel
theorem dX12_init_301 : decode cX12_init 301 = .ok (.iload_n 1, 1) := by decide +kernel
theorem dX12_init_302 : decode cX12_init 302 = .ok (.bipush (-5), 2) := by decide +kernel
theorem dX12_init_304 : decode cX12_init 304 = .ok (.iastore, 1) := by decide +kernel
theorem dX12_init_305 : decode cX12_init 305 = .ok (.iinc 1 1, 3) := by decide +kernel
theorem dX12_init_308 : decode cX12_init 308 = .ok (.goto (-17), 3) := by decide +kernel
theorem dX12_init_311 : decode cX12_init 311 = .ok (.return_, 1) := by decide +kernel
def L_X12_init_291 (d : Nat) (v0 : Option Nm) (v1 : Int32) (h : MH) (u : Nat) (Q : MH → Prop) : Prop := T u_X12_init (d + 1) 291 [some (jR v0), some (jI v1)] [] h u (qV Q)
def F_X12_init (d : Nat) (v0 : Option Nm) (h : MH) (u : Nat) (Q : MH → Prop) : Prop :=
  nn v0 <|
  nA .int h u 60 fun x1 h u =>
  pV h v0 11 4 (jR (some x1)) fun h =>
  nA .int h u 60 fun x2 h u =>
  pV h v0 11 5 (jR (some x2)) fun h =>
  nA .boolean h u 60 fun x3 h u =>
  pV h v0 11 6 (jR (some x3)) fun h =>
  nA .long h u 1200 fun x4 h u =>
  pV h v0 11 7 (jR (some x4)) fun h =>
  nA .long h u 20 fun x5 h u =>
  pV h v0 11 8 (jR (some x5)) fun h =>
  nA .boolean h u 16 fun x6 h u =>
  pV h v0 11 10 (jR (some x6)) fun h =>
  nA .int h u 16 fun x7 h u =>
  pV h v0 11 11 (jR (some x7)) fun h =>
  nA .boolean h u 16 fun x8 h u =>
  pV h v0 11 12 (jR (some x8)) fun h =>
  nA .int h u 16 fun x9 h u =>
  pV h v0 11 13 (jR (some x9)) fun h =>
  nA .int h u 16 fun x10 h u =>
  pV h v0 11 14 (jR (some x10)) fun h =>
  nA .int h u 64 fun x11 h u =>
  pV h v0 11 15 (jR (some x11)) fun h =>
  nA .int h u 512 fun x12 h u =>
  pV h v0 11 16 (jR (some x12)) fun h =>
  nA .int h u 512 fun x13 h u =>
  pV h v0 11 17 (jR (some x13)) fun h =>
  nA .int h u 512 fun x14 h u =>
  pV h v0 11 18 (jR (some x14)) fun h =>
  nA .int h u 8 fun x15 h u =>
  pV h v0 11 20 (jR (some x15)) fun h =>
  nA .boolean h u 8 fun x16 h u =>
  pV h v0 11 21 (jR (some x16)) fun h =>
  nA .int h u 6 fun x17 h u =>
  pV h v0 11 22 (jR (some x17)) fun h =>
  nA .long h u 6 fun x18 h u =>
  pV h v0 11 23 (jR (some x18)) fun h =>
  nA .int h u 200 fun x19 h u =>
  pV h v0 11 25 (jR (some x19)) fun h =>
  nA .int h u 200 fun x20 h u =>
  pV h v0 11 26 (jR (some x20)) fun h =>
  nA .int h u 200 fun x21 h u =>
  pV h v0 11 27 (jR (some x21)) fun h =>
  nA .int h u 200 fun x22 h u =>
  pV h v0 11 28 (jR (some x22)) fun h =>
  nA .int h u 200 fun x23 h u =>
  pV h v0 11 29 (jR (some x23)) fun h =>
  nA .int h u 200 fun x24 h u =>
  pV h v0 11 30 (jR (some x24)) fun h =>
  nA .long h u 1200 fun x25 h u =>
  pV h v0 11 31 (jR (some x25)) fun h =>
  nA .long h u 6 fun x26 h u =>
  pV h v0 11 32 (jR (some x26)) fun h =>
  nA .int h u 12 fun x27 h u =>
  pV h v0 11 36 (jR (some x27)) fun h =>
  nA .int h u 12 fun x28 h u =>
  pV h v0 11 37 (jR (some x28)) fun h =>
  nA .int h u 12 fun x29 h u =>
  pV h v0 11 38 (jR (some x29)) fun h =>
  nA .int h u 12 fun x30 h u =>
  pV h v0 11 39 (jR (some x30)) fun h =>
  nA .int h u 12 fun x31 h u =>
  pV h v0 11 40 (jR (some x31)) fun h =>
  nA .int h u 12 fun x32 h u =>
  pV h v0 11 41 (jR (some x32)) fun h =>
  nA .byte h u 4200 fun x33 h u =>
  pV h v0 11 42 (jR (some x33)) fun h =>
  nA .byte h u 4000 fun x34 h u =>
  pV h v0 11 44 (jR (some x34)) fun h =>
  L_X12_init_291 d v0 0 h u Q
set_option maxRecDepth 20000 in
theorem E_X12_init {d : Nat} {v0 : Option Nm} {h : MH} {u : Nat} {Q : MH → Prop} (H : F_X12_init d v0 h u Q) : T u_X12_init (d + 1) 0 [some (jR v0), none] [] h u (qV Q) := by
  unfold F_X12_init at H
  refine T_aload_n (pc := 0) dX12_init_0 rfl rfl ?_
  obtain ⟨n0, H0, H⟩ := nn_out H
  refine T_objInit (pc := 1) dX12_init_1 c_4_182 c_1_25 c_1_26 H0 (Nat.le_of_ble_eq_true rfl) ?_
  refine T_aload_n (pc := 4) dX12_init_4 rfl rfl ?_
  refine T_bipush (pc := 5) (v := 60) dX12_init_5 (by decide) ?_
  refine T_nA (pc := 7) dX12_init_7 rfl (by decide) c_1_65 (nA_mono (fun x1 h u H => ?_) H)
  refine T_pVF (pc := 9) fa_X12_7 rfl rfl dX12_init_9 trivial (pV_mono (fun h H => ?_) H)
  refine T_aload_n (pc := 12) dX12_init_12 rfl rfl ?_
  refine T_bipush (pc := 13) (v := 60) dX12_init_13 (by decide) ?_
  refine T_nA (pc := 15) dX12_init_15 rfl (by decide) c_1_65 (nA_mono (fun x2 h u H => ?_) H)
  refine T_pVF (pc := 17) fa_X12_13 rfl rfl dX12_init_17 trivial (pV_mono (fun h H => ?_) H)
  refine T_aload_n (pc := 20) dX12_init_20 rfl rfl ?_
  refine T_bipush (pc := 21) (v := 60) dX12_init_21 (by decide) ?_
  refine T_nA (pc := 23) dX12_init_23 rfl (by decide) c_1_184 (nA_mono (fun x3 h u H => ?_) H)
  refine T_pVF (pc := 25) fa_X12_16 rfl rfl dX12_init_25 trivial (pV_mono (fun h H => ?_) H)
  refine T_aload_n (pc := 28) dX12_init_28 rfl rfl ?_
  refine T_sipush (pc := 29) (v := 1200) dX12_init_29 (by decide) ?_
  refine T_nA (pc := 32) dX12_init_32 rfl (by decide) c_1_66 (nA_mono (fun x4 h u H => ?_) H)
  refine T_pVF (pc := 34) fa_X12_20 rfl rfl dX12_init_34 trivial (pV_mono (fun h H => ?_) H)
  refine T_aload_n (pc := 37) dX12_init_37 rfl rfl ?_
  refine T_bipush (pc := 38) (v := 20) dX12_init_38 (by decide) ?_
  refine T_nA (pc := 40) dX12_init_40 rfl (by decide) c_1_66 (nA_mono (fun x5 h u H => ?_) H)
  refine T_pVF (pc := 42) fa_X12_24 rfl rfl dX12_init_42 trivial (pV_mono (fun h H => ?_) H)
  refine T_aload_n (pc := 45) dX12_init_45 rfl rfl ?_
  refine T_bipush (pc := 46) (v := 16) dX12_init_46 (by decide) ?_
  refine T_nA (pc := 48) dX12_init_48 rfl (by decide) c_1_184 (nA_mono (fun x6 h u H => ?_) H)
  refine T_pVF (pc := 50) fa_X12_27 rfl rfl dX12_init_50 trivial (pV_mono (fun h H => ?_) H)
  refine T_aload_n (pc := 53) dX12_init_53 rfl rfl ?_
  refine T_bipush (pc := 54) (v := 16) dX12_init_54 (by decide) ?_
  refine T_nA (pc := 56) dX12_init_56 rfl (by decide) c_1_65 (nA_mono (fun x7 h u H => ?_) H)
  refine T_pVF (pc := 58) fa_X12_30 rfl rfl dX12_init_58 trivial (pV_mono (fun h H => ?_) H)
  refine T_aload_n (pc := 61) dX12_init_61 rfl rfl ?_
  refine T_bipush (pc := 62) (v := 16) dX12_init_62 (by decide) ?_
  refine T_nA (pc := 64) dX12_init_64 rfl (by decide) c_1_184 (nA_mono (fun x8 h u H => ?_) H)
  refine T_pVF (pc := 66) fa_X12_33 rfl rfl dX12_init_66 trivial (pV_mono (fun h H => ?_) H)
  refine T_aload_n (pc := 69) dX12_init_69 rfl rfl ?_
  refine T_bipush (pc := 70) (v := 16) dX12_init_70 (by decide) ?_
  refine T_nA (pc := 72) dX12_init_72 rfl (by decide) c_1_65 (nA_mono (fun x9 h u H => ?_) H)
  refine T_pVF (pc := 74) fa_X12_36 rfl rfl dX12_init_74 trivial (pV_mono (fun h H => ?_) H)
  refine T_aload_n (pc := 77) dX12_init_77 rfl rfl ?_
  refine T_bipush (pc := 78) (v := 16) dX12_init_78 (by decide) ?_
  refine T_nA (pc := 80) dX12_init_80 rfl (by decide) c_1_65 (nA_mono (fun x10 h u H => ?_) H)
  refine T_pVF (pc := 82) fa_X12_39 rfl rfl dX12_init_82 trivial (pV_mono (fun h H => ?_) H)
  refine T_aload_n (pc := 85) dX12_init_85 rfl rfl ?_
  refine T_bipush (pc := 86) (v := 64) dX12_init_86 (by decide) ?_
  refine T_nA (pc := 88) dX12_init_88 rfl (by decide) c_1_65 (nA_mono (fun x11 h u H => ?_) H)
  refine T_pVF (pc := 90) fa_X12_42 rfl rfl dX12_init_90 trivial (pV_mono (fun h H => ?_) H)
  refine T_aload_n (pc := 93) dX12_init_93 rfl rfl ?_
  refine T_sipush (pc := 94) (v := 512) dX12_init_94 (by decide) ?_
  refine T_nA (pc := 97) dX12_init_97 rfl (by decide) c_1_65 (nA_mono (fun x12 h u H => ?_) H)
  refine T_pVF (pc := 99) fa_X12_45 rfl rfl dX12_init_99 trivial (pV_mono (fun h H => ?_) H)
  refine T_aload_n (pc := 102) dX12_init_102 rfl rfl ?_
  refine T_sipush (pc := 103) (v := 512) dX12_init_103 (by decide) ?_
  refine T_nA (pc := 106) dX12_init_106 rfl (by decide) c_1_65 (nA_mono (fun x13 h u H => ?_) H)
  refine T_pVF (pc := 108) fa_X12_48 rfl rfl dX12_init_108 trivial (pV_mono (fun h H => ?_) H)
  refine T_aload_n (pc := 111) dX12_init_111 rfl rfl ?_
  refine T_sipush (pc := 112) (v := 512) dX12_init_112 (by decide) ?_
  refine T_nA (pc := 115) dX12_init_115 rfl (by decide) c_1_65 (nA_mono (fun x14 h u H => ?_) H)
  refine T_pVF (pc := 117) fa_X12_51 rfl rfl dX12_init_117 trivial (pV_mono (fun h H => ?_) H)
  refine T_aload_n (pc := 120) dX12_init_120 rfl rfl ?_
  refine T_bipush (pc := 121) (v := 8) dX12_init_121 (by decide) ?_
  refine T_nA (pc := 123) dX12_init_123 rfl (by decide) c_1_65 (nA_mono (fun x15 h u H => ?_) H)
  refine T_pVF (pc := 125) fa_X12_54 rfl rfl dX12_init_125 trivial (pV_mono (fun h H => ?_) H)
  refine T_aload_n (pc := 128) dX12_init_128 rfl rfl ?_
  refine T_bipush (pc := 129) (v := 8) dX12_init_129 (by decide) ?_
  refine T_nA (pc := 131) dX12_init_131 rfl (by decide) c_1_184 (nA_mono (fun x16 h u H => ?_) H)
  refine T_pVF (pc := 133) fa_X12_57 rfl rfl dX12_init_133 trivial (pV_mono (fun h H => ?_) H)
  refine T_aload_n (pc := 136) dX12_init_136 rfl rfl ?_
  refine T_bipush (pc := 137) (v := 6) dX12_init_137 (by decide) ?_
  refine T_nA (pc := 139) dX12_init_139 rfl (by decide) c_1_65 (nA_mono (fun x17 h u H => ?_) H)
  refine T_pVF (pc := 141) fa_X12_60 rfl rfl dX12_init_141 trivial (pV_mono (fun h H => ?_) H)
  refine T_aload_n (pc := 144) dX12_init_144 rfl rfl ?_
  refine T_bipush (pc := 145) (v := 6) dX12_init_145 (by decide) ?_
  refine T_nA (pc := 147) dX12_init_147 rfl (by decide) c_1_66 (nA_mono (fun x18 h u H => ?_) H)
  refine T_pVF (pc := 149) fa_X12_63 rfl rfl dX12_init_149 trivial (pV_mono (fun h H => ?_) H)
  refine T_aload_n (pc := 152) dX12_init_152 rfl rfl ?_
  refine T_sipush (pc := 153) (v := 200) dX12_init_153 (by decide) ?_
  refine T_nA (pc := 156) dX12_init_156 rfl (by decide) c_1_65 (nA_mono (fun x19 h u H => ?_) H)
  refine T_pVF (pc := 158) fa_X12_66 rfl rfl dX12_init_158 trivial (pV_mono (fun h H => ?_) H)
  refine T_aload_n (pc := 161) dX12_init_161 rfl rfl ?_
  refine T_sipush (pc := 162) (v := 200) dX12_init_162 (by decide) ?_
  refine T_nA (pc := 165) dX12_init_165 rfl (by decide) c_1_65 (nA_mono (fun x20 h u H => ?_) H)
  refine T_pVF (pc := 167) fa_X12_69 rfl rfl dX12_init_167 trivial (pV_mono (fun h H => ?_) H)
  refine T_aload_n (pc := 170) dX12_init_170 rfl rfl ?_
  refine T_sipush (pc := 171) (v := 200) dX12_init_171 (by decide) ?_
  refine T_nA (pc := 174) dX12_init_174 rfl (by decide) c_1_65 (nA_mono (fun x21 h u H => ?_) H)
  refine T_pVF (pc := 176) fa_X12_72 rfl rfl dX12_init_176 trivial (pV_mono (fun h H => ?_) H)
  refine T_aload_n (pc := 179) dX12_init_179 rfl rfl ?_
  refine T_sipush (pc := 180) (v := 200) dX12_init_180 (by decide) ?_
  refine T_nA (pc := 183) dX12_init_183 rfl (by decide) c_1_65 (nA_mono (fun x22 h u H => ?_) H)
  refine T_pVF (pc := 185) fa_X12_75 rfl rfl dX12_init_185 trivial (pV_mono (fun h H => ?_) H)
  refine T_aload_n (pc := 188) dX12_init_188 rfl rfl ?_
  refine T_sipush (pc := 189) (v := 200) dX12_init_189 (by decide) ?_
  refine T_nA (pc := 192) dX12_init_192 rfl (by decide) c_1_65 (nA_mono (fun x23 h u H => ?_) H)
  refine T_pVF (pc := 194) fa_X12_78 rfl rfl dX12_init_194 trivial (pV_mono (fun h H => ?_) H)
  refine T_aload_n (pc := 197) dX12_init_197 rfl rfl ?_
  refine T_sipush (pc := 198) (v := 200) dX12_init_198 (by decide) ?_
  refine T_nA (pc := 201) dX12_init_201 rfl (by decide) c_1_65 (nA_mono (fun x24 h u H => ?_) H)
  refine T_pVF (pc := 203) fa_X12_81 rfl rfl dX12_init_203 trivial (pV_mono (fun h H => ?_) H)
  refine T_aload_n (pc := 206) dX12_init_206 rfl rfl ?_
  refine T_sipush (pc := 207) (v := 1200) dX12_init_207 (by decide) ?_
  refine T_nA (pc := 210) dX12_init_210 rfl (by decide) c_1_66 (nA_mono (fun x25 h u H => ?_) H)
  refine T_pVF (pc := 212) fa_X12_84 rfl rfl dX12_init_212 trivial (pV_mono (fun h H => ?_) H)
  refine T_aload_n (pc := 215) dX12_init_215 rfl rfl ?_
  refine T_bipush (pc := 216) (v := 6) dX12_init_216 (by decide) ?_
  refine T_nA (pc := 218) dX12_init_218 rfl (by decide) c_1_66 (nA_mono (fun x26 h u H => ?_) H)
  refine T_pVF (pc := 220) fa_X12_87 rfl rfl dX12_init_220 trivial (pV_mono (fun h H => ?_) H)
  refine T_aload_n (pc := 223) dX12_init_223 rfl rfl ?_
  refine T_bipush (pc := 224) (v := 12) dX12_init_224 (by decide) ?_
  refine T_nA (pc := 226) dX12_init_226 rfl (by decide) c_1_65 (nA_mono (fun x27 h u H => ?_) H)
  refine T_pVF (pc := 228) fa_X12_90 rfl rfl dX12_init_228 trivial (pV_mono (fun h H => ?_) H)
  refine T_aload_n (pc := 231) dX12_init_231 rfl rfl ?_
  refine T_bipush (pc := 232) (v := 12) dX12_init_232 (by decide) ?_
  refine T_nA (pc := 234) dX12_init_234 rfl (by decide) c_1_65 (nA_mono (fun x28 h u H => ?_) H)
  refine T_pVF (pc := 236) fa_X12_93 rfl rfl dX12_init_236 trivial (pV_mono (fun h H => ?_) H)
  refine T_aload_n (pc := 239) dX12_init_239 rfl rfl ?_
  refine T_bipush (pc := 240) (v := 12) dX12_init_240 (by decide) ?_
  refine T_nA (pc := 242) dX12_init_242 rfl (by decide) c_1_65 (nA_mono (fun x29 h u H => ?_) H)
  refine T_pVF (pc := 244) fa_X12_96 rfl rfl dX12_init_244 trivial (pV_mono (fun h H => ?_) H)
  refine T_aload_n (pc := 247) dX12_init_247 rfl rfl ?_
  refine T_bipush (pc := 248) (v := 12) dX12_init_248 (by decide) ?_
  refine T_nA (pc := 250) dX12_init_250 rfl (by decide) c_1_65 (nA_mono (fun x30 h u H => ?_) H)
  refine T_pVF (pc := 252) fa_X12_99 rfl rfl dX12_init_252 trivial (pV_mono (fun h H => ?_) H)
  refine T_aload_n (pc := 255) dX12_init_255 rfl rfl ?_
  refine T_bipush (pc := 256) (v := 12) dX12_init_256 (by decide) ?_
  refine T_nA (pc := 258) dX12_init_258 rfl (by decide) c_1_65 (nA_mono (fun x31 h u H => ?_) H)
  refine T_pVF (pc := 260) fa_X12_102 rfl rfl dX12_init_260 trivial (pV_mono (fun h H => ?_) H)
  refine T_aload_n (pc := 263) dX12_init_263 rfl rfl ?_
  refine T_bipush (pc := 264) (v := 12) dX12_init_264 (by decide) ?_
  refine T_nA (pc := 266) dX12_init_266 rfl (by decide) c_1_65 (nA_mono (fun x32 h u H => ?_) H)
  refine T_pVF (pc := 268) fa_X12_105 rfl rfl dX12_init_268 trivial (pV_mono (fun h H => ?_) H)
  refine T_aload_n (pc := 271) dX12_init_271 rfl rfl ?_
  refine T_sipush (pc := 272) (v := 4200) dX12_init_272 (by decide) ?_
  refine T_nA (pc := 275) dX12_init_275 rfl (by decide) c_1_126 (nA_mono (fun x33 h u H => ?_) H)
  refine T_pVF (pc := 277) fa_X12_108 rfl rfl dX12_init_277 trivial (pV_mono (fun h H => ?_) H)
  refine T_aload_n (pc := 280) dX12_init_280 rfl rfl ?_
  refine T_sipush (pc := 281) (v := 4000) dX12_init_281 (by decide) ?_
  refine T_nA (pc := 284) dX12_init_284 rfl (by decide) c_1_126 (nA_mono (fun x34 h u H => ?_) H)
  refine T_pVF (pc := 286) fa_X12_112 rfl rfl dX12_init_286 trivial (pV_mono (fun h H => ?_) H)
  refine T_iconst (pc := 289) (v := 0) dX12_init_289 (by decide) ?_
  refine T_istore_n (pc := 290) (ls2 := [some (jR v0), some (jI 0)]) dX12_init_290 rfl (Nat.le_of_ble_eq_true rfl) rfl ?_
  exact T.forget H ⟨rfl, rfl, trivial⟩
def F_X12_init_291 (d : Nat) (v0 : Option Nm) (v1 : Int32) (h : MH) (u : Nat) (Q : MH → Prop) : Prop :=
  if 6 ≤ v1 then
    Q h
  else
    gR h v0 11 22 fun x1 =>
    sV .int h x1 v1 (jI (-5)) fun h =>
    L_X12_init_291 d v0 (v1 + 1) h u Q
set_option maxRecDepth 20000 in
theorem E_X12_init_291 {d : Nat} {v0 : Option Nm} {v1 : Int32} {h : MH} {u : Nat} {Q : MH → Prop} (H : F_X12_init_291 d v0 v1 h u Q) : T u_X12_init (d + 1) 291 [some (jR v0), some (jI v1)] [] h u (qV Q) := by
  unfold F_X12_init_291 at H
  refine T_iload_n (pc := 291) dX12_init_291 rfl rfl ?_
  refine T_bipush (pc := 292) (v := 6) dX12_init_292 (by decide) ?_
  refine T_icmp_ge (pc := 294) (tgt := 311) dX12_init_294 (by decide) (fun hc => ?_) (fun hc => ?_)
  · rw [if_pos hc] at H
    exact T_return (pc := 311) rfl dX12_init_311 H
  · rw [if_neg hc] at H
    refine T_aload_n (pc := 297) dX12_init_297 rfl rfl ?_
    refine T_gR (pc := 298) fa_X12_60 dX12_init_298 (gR_mono (fun x1 H => ?_) H)
    refine T_iload_n (pc := 301) dX12_init_301 rfl rfl ?_
    refine T_bipush (pc := 302) (v := (-5)) dX12_init_302 (by decide) ?_
    refine T_sI (pc := 304) dX12_init_304 (sV_mono (fun h H => ?_) H)
    refine T_iinc (pc := 305) (v := v1 + 1) (ls2 := [some (jR v0), some (jI (v1 + 1))]) dX12_init_305 rfl rfl (Nat.le_of_ble_eq_true rfl) rfl ?_
    refine T_goto (pc := 308) (tgt := 291) dX12_init_308 (by decide) ?_
    exact T.forget H ⟨rfl, rfl, trivial⟩
theorem I_X12_init {d : Nat} {v0 : Option Nm} {h : MH} {u : Nat} {K : MH → Nat → Prop} (u1 : Nat) (hu : u1 ≤ u) (H : F_X12_init d v0 h u1 (fun h2 => K h2 (u - u1))) : iV (d + 1) u_X12_init [jR v0] h u K := inv.of u1 hu (Ct.of (by decide +kernel) rfl (Nat.le_of_ble_eq_true rfl) rfl (E_X12_init H))
theorem dX12_in_0 : decode cX12_in 0 = .ok (.iload_n 0, 1) := by decide +kernel
theorem dX12_in_1 : decode cX12_in 1 = .ok (.iload_n 1, 1) := by decide +kernel
theorem dX12_in_2 : decode cX12_in 2 = .ok (.if_icmp .lt 12, 3) := by decide +kernel
theorem dX12_in_5 : decode cX12_in 5 = .ok (.iload_n 0, 1) := by decide +kernel
theorem dX12_in_6 : decode cX12_in 6 = .ok (.iload_n 2, 1) := by decide +kernel
theorem dX12_in_7 : decode cX12_in 7 = .ok (.if_icmp .gt 7, 3) := by decide +kernel
theorem dX12_in_10 : decode cX12_in 10 = .ok (.iconst 1, 1) := by decide +kernel
theorem dX12_in_11 : decode cX12_in 11 = .ok (.goto 4, 3) := by decide +kernel
theorem dX12_in_14 : decode cX12_in 14 = .ok (.iconst 0, 1) := by decide +kernel
theorem dX12_in_15 : decode cX12_in 15 = .ok (.ireturn, 1) := by decide +kernel
def F_X12_in (d : Nat) (v0 : Int32) (v1 : Int32) (v2 : Int32) (h : MH) (u : Nat) (Q : Int32 → MH → Prop) : Prop :=
  if v0 < v1 then
    nz 0 ∧ Q 0 h
  else
    if v2 < v0 then
      nz 0 ∧ Q 0 h
    else
      nz 1 ∧ Q 1 h
set_option maxRecDepth 20000 in
theorem E_X12_in {d : Nat} {v0 : Int32} {v1 : Int32} {v2 : Int32} {h : MH} {u : Nat} {Q : Int32 → MH → Prop} (H : F_X12_in d v0 v1 v2 h u Q) : T u_X12_in d 0 [some (jI v0), some (jI v1), some (jI v2)] [] h u (qI Q) := by
  unfold F_X12_in at H
  refine T_iload_n (pc := 0) dX12_in_0 rfl rfl ?_
  refine T_iload_n (pc := 1) dX12_in_1 rfl rfl ?_
  refine T_icmp_lt (pc := 2) (tgt := 14) dX12_in_2 (by decide) (fun hc => ?_) (fun hc => ?_)
  · rw [if_pos hc] at H
    refine T_iconst (pc := 14) (v := 0) dX12_in_14 (by decide) ?_
    exact T_ireturn (pc := 15) rfl (nz_nar H.1) dX12_in_15 H.2
  · rw [if_neg hc] at H
    refine T_iload_n (pc := 5) dX12_in_5 rfl rfl ?_
    refine T_iload_n (pc := 6) dX12_in_6 rfl rfl ?_
    refine T_icmp_gt (pc := 7) (tgt := 14) dX12_in_7 (by decide) (fun hc => ?_) (fun hc => ?_)
    · rw [if_pos hc] at H
      refine T_iconst (pc := 14) (v := 0) dX12_in_14 (by decide) ?_
      exact T_ireturn (pc := 15) rfl (nz_nar H.1) dX12_in_15 H.2
    · rw [if_neg hc] at H
      refine T_iconst (pc := 10) (v := 1) dX12_in_10 (by decide) ?_
      refine T_goto (pc := 11) (tgt := 15) dX12_in_11 (by decide) ?_
      exact T_ireturn (pc := 15) rfl (nz_nar H.1) dX12_in_15 H.2
theorem I_X12_in {d : Nat} {v0 : Int32} {v1 : Int32} {v2 : Int32} {h : MH} {u : Nat} {K : Int32 → MH → Nat → Prop} (u1 : Nat) (hu : u1 ≤ u) (H : F_X12_in d v0 v1 v2 h u1 (fun x h2 => K x h2 (u - u1))) : iI d u_X12_in [jI v0, jI v1, jI v2] h u K := inv.of u1 hu (Ct.of (by decide +kernel) rfl (Nat.le_of_ble_eq_true rfl) rfl (E_X12_in H))
theorem dX12_lost_0 : decode cX12_lost 0 = .ok (.ldc2_w 115, 3) := by decide +kernel
theorem dX12_lost_3 : decode cX12_lost 3 = .ok (.lreturn, 1) := by decide +kernel
def F_X12_lost (d : Nat)  (h : MH) (u : Nat) (Q : Int64 → MH → Prop) : Prop :=
  Q (-9223372036854775808) h
set_option maxRecDepth 20000 in
theorem E_X12_lost {d : Nat}  {h : MH} {u : Nat} {Q : Int64 → MH → Prop} (H : F_X12_lost d  h u Q) : T u_X12_lost d 0 [] [] h u (qL Q) := by
  unfold F_X12_lost at H
  refine T_ldc2 (pc := 0) (v := (-9223372036854775808)) dX12_lost_0 c_5_146 ?_
  exact T_lreturn (pc := 3) rfl dX12_lost_3 H
theorem I_X12_lost {d : Nat}  {h : MH} {u : Nat} {K : Int64 → MH → Nat → Prop} (u1 : Nat) (hu : u1 ≤ u) (H : F_X12_lost d  h u1 (fun x h2 => K x h2 (u - u1))) : iL d u_X12_lost [] h u K := inv.of u1 hu (Ct.of (by decide +kernel) rfl (Nat.le_of_ble_eq_true rfl) rfl (E_X12_lost H))
theorem dX12_fails_0 : decode cX12_fails 0 = .ok (.aload_n 0, 1) := by decide +kernel
theorem dX12_fails_1 : decode cX12_fails 1 = .ok (.iload_n 1, 1) := by decide +kernel
theorem dX12_fails_2 : decode cX12_fails 2 = .ok (.putfield 117, 3) := by decide +kernel
theorem dX12_fails_5 : decode cX12_fails 5 = .ok (.aload_n 0, 1) := by decide +kernel
theorem dX12_fails_6 : decode cX12_fails 6 = .ok (.dup, 1) := by decide +kernel
theorem dX12_fails_7 : decode cX12_fails 7 = .ok (.getfield 121, 3) := by decide +kernel
theorem dX12_fails_10 : decode cX12_fails 10 = .ok (.iconst 1, 1) := by decide +kernel
theorem dX12_fails_11 : decode cX12_fails 11 = .ok (.iadd, 1) := by decide +kernel
theorem dX12_fails_12 : decode cX12_fails 12 = .ok (.putfield 121, 3) := by decide +kernel
theorem dX12_fails_15 : decode cX12_fails 15 = .ok (.bipush (-10), 2) := by decide +kernel
theorem dX12_fails_17 : decode cX12_fails 17 = .ok (.iload_n 1, 1) := by decide +kernel
theorem dX12_fails_18 : decode cX12_fails 18 = .ok (.isub, 1) := by decide +kernel
theorem dX12_fails_19 : decode cX12_fails 19 = .ok (.ireturn, 1) := by decide +kernel
def F_X12_fails (d : Nat) (v0 : Option Nm) (v1 : Int32) (h : MH) (u : Nat) (Q : Int32 → MH → Prop) : Prop :=
  pV h v0 11 0 (jI v1) fun h =>
  gI h v0 11 1 fun x1 =>
  pV h v0 11 1 (jI (x1 + 1)) fun h =>
  Q ((-10) - v1) h
set_option maxRecDepth 20000 in
theorem E_X12_fails {d : Nat} {v0 : Option Nm} {v1 : Int32} {h : MH} {u : Nat} {Q : Int32 → MH → Prop} (H : F_X12_fails d v0 v1 h u Q) : T u_X12_fails d 0 [some (jR v0), some (jI v1)] [] h u (qI Q) := by
  unfold F_X12_fails at H
  refine T_aload_n (pc := 0) dX12_fails_0 rfl rfl ?_
  refine T_iload_n (pc := 1) dX12_fails_1 rfl rfl ?_
  refine T_pV (pc := 2) fa_X12_117 dX12_fails_2 trivial (pV_mono (fun h H => ?_) H)
  refine T_aload_n (pc := 5) dX12_fails_5 rfl rfl ?_
  refine T_dup (pc := 6) rfl dX12_fails_6 ?_
  refine T_gI (pc := 7) fa_X12_121 dX12_fails_7 (gI_mono (fun x1 H => ?_) H)
  refine T_iconst (pc := 10) (v := 1) dX12_fails_10 (by decide) ?_
  refine T_iadd (pc := 11) dX12_fails_11 ?_
  refine T_pV (pc := 12) fa_X12_121 dX12_fails_12 trivial (pV_mono (fun h H => ?_) H)
  refine T_bipush (pc := 15) (v := (-10)) dX12_fails_15 (by decide) ?_
  refine T_iload_n (pc := 17) dX12_fails_17 rfl rfl ?_
  refine T_isub (pc := 18) dX12_fails_18 ?_
  exact T_ireturn (pc := 19) rfl rfl dX12_fails_19 H
theorem I_X12_fails {d : Nat} {v0 : Option Nm} {v1 : Int32} {h : MH} {u : Nat} {K : Int32 → MH → Nat → Prop} (u1 : Nat) (hu : u1 ≤ u) (H : F_X12_fails d v0 v1 h u1 (fun x h2 => K x h2 (u - u1))) : iI d u_X12_fails [jR v0, jI v1] h u K := inv.of u1 hu (Ct.of (by decide +kernel) rfl (Nat.le_of_ble_eq_true rfl) rfl (E_X12_fails H))
theorem dX12_failsLong_0 : decode cX12_failsLong 0 = .ok (.aload_n 0, 1) := by decide +kernel
theorem dX12_failsLong_1 : decode cX12_failsLong 1 = .ok (.iload_n 1, 1) := by decide +kernel
theorem dX12_failsLong_2 : decode cX12_failsLong 2 = .ok (.putfield 117, 3) := by decide +kernel
theorem dX12_failsLong_5 : decode cX12_failsLong 5 = .ok (.aload_n 0, 1) := by decide +kernel
theorem dX12_failsLong_6 : decode cX12_failsLong 6 = .ok (.dup, 1) := by decide +kernel
theorem dX12_failsLong_7 : decode cX12_failsLong 7 = .ok (.getfield 121, 3) := by decide +kernel
theorem dX12_failsLong_10 : decode cX12_failsLong 10 = .ok (.iconst 1, 1) := by decide +kernel
theorem dX12_failsLong_11 : decode cX12_failsLong 11 = .ok (.iadd, 1) := by decide +kernel
theorem dX12_failsLong_12 : decode cX12_failsLong 12 = .ok (.putfield 121, 3) := by decide +kernel
theorem dX12_failsLong_15 : decode cX12_failsLong 15 = .ok (.invokestatic 124, 3) := by decide +kernel
theorem dX12_failsLong_18 : decode cX12_failsLong 18 = .ok (.lreturn, 1) := by decide +kernel
def F_X12_failsLong (d : Nat) (v0 : Option Nm) (v1 : Int32) (h : MH) (u : Nat) (Q : Int64 → MH → Prop) : Prop :=
  pV h v0 11 0 (jI v1) fun h =>
  gI h v0 11 1 fun x1 =>
  pV h v0 11 1 (jI (x1 + 1)) fun h =>
  iL d u_X12_lost [] h u fun x2 h u =>
  Q x2 h
set_option maxRecDepth 20000 in
theorem E_X12_failsLong {d : Nat} {v0 : Option Nm} {v1 : Int32} {h : MH} {u : Nat} {Q : Int64 → MH → Prop} (H : F_X12_failsLong d v0 v1 h u Q) : T u_X12_failsLong (d + 1) 0 [some (jR v0), some (jI v1)] [] h u (qL Q) := by
  unfold F_X12_failsLong at H
  refine T_aload_n (pc := 0) dX12_failsLong_0 rfl rfl ?_
  refine T_iload_n (pc := 1) dX12_failsLong_1 rfl rfl ?_
  refine T_pV (pc := 2) fa_X12_117 dX12_failsLong_2 trivial (pV_mono (fun h H => ?_) H)
  refine T_aload_n (pc := 5) dX12_failsLong_5 rfl rfl ?_
  refine T_dup (pc := 6) rfl dX12_failsLong_6 ?_
  refine T_gI (pc := 7) fa_X12_121 dX12_failsLong_7 (gI_mono (fun x1 H => ?_) H)
  refine T_iconst (pc := 10) (v := 1) dX12_failsLong_10 (by decide) ?_
  refine T_iadd (pc := 11) dX12_failsLong_11 ?_
  refine T_pV (pc := 12) fa_X12_121 dX12_failsLong_12 trivial (pV_mono (fun h H => ?_) H)
  refine T_invS (pc := 15) (av := []) (rest := []) dX12_failsLong_15 mf_X12_lost c_5_143 c_5_144 rfl (Nat.le_of_ble_eq_true rfl) rfl (iL_k (iL_mono (fun x2 h u H => ?_) H))
  exact T_lreturn (pc := 18) rfl dX12_failsLong_18 H
theorem I_X12_failsLong {d : Nat} {v0 : Option Nm} {v1 : Int32} {h : MH} {u : Nat} {K : Int64 → MH → Nat → Prop} (u1 : Nat) (hu : u1 ≤ u) (H : F_X12_failsLong d v0 v1 h u1 (fun x h2 => K x h2 (u - u1))) : iL (d + 1) u_X12_failsLong [jR v0, jI v1] h u K := inv.of u1 hu (Ct.of (by decide +kernel) rfl (Nat.le_of_ble_eq_true rfl) rfl (E_X12_failsLong H))
theorem dX12_traced_0 : decode cX12_traced 0 = .ok (.aload_n 0, 1) := by decide +kernel
theorem dX12_traced_1 : decode cX12_traced 1 = .ok (.bipush 31, 2) := by decide +kernel
theorem dX12_traced_3 : decode cX12_traced 3 = .ok (.aload_n 0, 1) := by decide +kernel
theorem dX12_traced_4 : decode cX12_traced 4 = .ok (.getfield 128, 3) := by decide +kernel
theorem dX12_traced_7 : decode cX12_traced 7 = .ok (.imul, 1) := by decide +kernel
theorem dX12_traced_8 : decode cX12_traced 8 = .ok (.iload_n 1, 1) := by decide +kernel
theorem dX12_traced_9 : decode cX12_traced 9 = .ok (.iadd, 1) := by decide +kernel
theorem dX12_traced_10 : decode cX12_traced 10 = .ok (.putfield 128, 3) := by decide +kernel
theorem dX12_traced_13 : decode cX12_traced 13 = .ok (.return_, 1) := by decide +kernel
def F_X12_traced (d : Nat) (v0 : Option Nm) (v1 : Int32) (h : MH) (u : Nat) (Q : MH → Prop) : Prop :=
  gI h v0 11 2 fun x1 =>
  pV h v0 11 2 (jI ((31 * x1) + v1)) fun h =>
  Q h
set_option maxRecDepth 20000 in
theorem E_X12_traced {d : Nat} {v0 : Option Nm} {v1 : Int32} {h : MH} {u : Nat} {Q : MH → Prop} (H : F_X12_traced d v0 v1 h u Q) : T u_X12_traced d 0 [some (jR v0), some (jI v1)] [] h u (qV Q) := by
  unfold F_X12_traced at H
  refine T_aload_n (pc := 0) dX12_traced_0 rfl rfl ?_
  refine T_bipush (pc := 1) (v := 31) dX12_traced_1 (by decide) ?_
  refine T_aload_n (pc := 3) dX12_traced_3 rfl rfl ?_
  refine T_gI (pc := 4) fa_X12_128 dX12_traced_4 (gI_mono (fun x1 H => ?_) H)
  refine T_imul (pc := 7) dX12_traced_7 ?_
  refine T_iload_n (pc := 8) dX12_traced_8 rfl rfl ?_
  refine T_iadd (pc := 9) dX12_traced_9 ?_
  refine T_pV (pc := 10) fa_X12_128 dX12_traced_10 trivial (pV_mono (fun h H => ?_) H)
  exact T_return (pc := 13) rfl dX12_traced_13 H
theorem I_X12_traced {d : Nat} {v0 : Option Nm} {v1 : Int32} {h : MH} {u : Nat} {K : MH → Nat → Prop} (u1 : Nat) (hu : u1 ≤ u) (H : F_X12_traced d v0 v1 h u1 (fun h2 => K h2 (u - u1))) : iV d u_X12_traced [jR v0, jI v1] h u K := inv.of u1 hu (Ct.of (by decide +kernel) rfl (Nat.le_of_ble_eq_true rfl) rfl (E_X12_traced H))
theorem dX12_comes_0 : decode cX12_comes 0 = .ok (.iload_n 0, 1) := by decide +kernel
theorem dX12_comes_1 : decode cX12_comes 1 = .ok (.tableswitch 76 0 6 #[43, 47, 52, 58, 63, 67, 69], 43) := by decide +kernel
theorem dX12_comes_44 : decode cX12_comes 44 = .ok (.lload_n 1, 1) := by decide +kernel
theorem dX12_comes_45 : decode cX12_comes 45 = .ok (.lconst 1, 1) := by decide +kernel
theorem dX12_comes_46 : decode cX12_comes 46 = .ok (.land, 1) := by decide +kernel
theorem dX12_comes_47 : decode cX12_comes 47 = .ok (.lreturn, 1) := by decide +kernel
theorem dX12_comes_48 : decode cX12_comes 48 = .ok (.lload_n 1, 1) := by decide +kernel
theorem dX12_comes_49 : decode cX12_comes 49 = .ok (.l2i, 1) := by decide +kernel
theorem dX12_comes_50 : decode cX12_comes 50 = .ok (.i2b, 1) := by decide +kernel
theorem dX12_comes_51 : decode cX12_comes 51 = .ok (.i2l, 1) := by decide +kernel
theorem dX12_comes_52 : decode cX12_comes 52 = .ok (.lreturn, 1) := by decide +kernel
theorem dX12_comes_53 : decode cX12_comes 53 = .ok (.lload_n 1, 1) := by decide +kernel
theorem dX12_comes_54 : decode cX12_comes 54 = .ok (.ldc2_w 131, 3) := by decide +kernel
theorem dX12_comes_57 : decode cX12_comes 57 = .ok (.land, 1) := by decide +kernel
theorem dX12_comes_58 : decode cX12_comes 58 = .ok (.lreturn, 1) := by decide +kernel
theorem dX12_comes_59 : decode cX12_comes 59 = .ok (.lload_n 1, 1) := by decide +kernel
theorem dX12_comes_60 : decode cX12_comes 60 = .ok (.l2i, 1) := by decide +kernel
theorem dX12_comes_61 : decode cX12_comes 61 = .ok (.i2s, 1) := by decide +kernel
theorem dX12_comes_62 : decode cX12_comes 62 = .ok (.i2l, 1) := by decide +kernel
theorem dX12_comes_63 : decode cX12_comes 63 = .ok (.lreturn, 1) := by decide +kernel
theorem dX12_comes_64 : decode cX12_comes 64 = .ok (.lload_n 1, 1) := by decide +kernel
theorem dX12_comes_65 : decode cX12_comes 65 = .ok (.l2i, 1) := by decide +kernel
theorem dX12_comes_66 : decode cX12_comes 66 = .ok (.i2l, 1) := by decide +kernel
theorem dX12_comes_67 : decode cX12_comes 67 = .ok (.lreturn, 1) := by decide +kernel
theorem dX12_comes_68 : decode cX12_comes 68 = .ok (.lload_n 1, 1) := by decide +kernel
theorem dX12_comes_69 : decode cX12_comes 69 = .ok (.lreturn, 1) := by decide +kernel
theorem dX12_comes_70 : decode cX12_comes 70 = .ok (.lload_n 1, 1) := by decide +kernel
theorem dX12_comes_71 : decode cX12_comes 71 = .ok (.l2f, 1) := by decide +kernel
theorem dX12_comes_72 : decode cX12_comes 72 = .ok (.invokestatic 133, 3) := by decide +kernel
theorem dX12_comes_75 : decode cX12_comes 75 = .ok (.i2l, 1) := by decide +kernel
theorem dX12_comes_76 : decode cX12_comes 76 = .ok (.lreturn, 1) := by decide +kernel
theorem dX12_comes_77 : decode cX12_comes 77 = .ok (.lload_n 1, 1) := by decide +kernel
theorem dX12_comes_78 : decode cX12_comes 78 = .ok (.l2d, 1) := by decide +kernel
theorem dX12_comes_79 : decode cX12_comes 79 = .ok (.invokestatic 139, 3) := by decide +kernel
theorem dX12_comes_82 : decode cX12_comes 82 = .ok (.lreturn, 1) := by decide +kernel
def F_X12_comes (d : Nat) (v0 : Int32) (v1 : Int64) (h : MH) (u : Nat) (Q : Int64 → MH → Prop) : Prop :=
  if v0 = 0 then
    Q (v1 &&& 1) h
  else if v0 = 1 then
    Q (((v1.toInt32).toInt8.toInt32).toInt64) h
  else if v0 = 2 then
    Q (v1 &&& 65535) h
  else if v0 = 3 then
    Q (((v1.toInt32).toInt16.toInt32).toInt64) h
  else if v0 = 4 then
    Q ((v1.toInt32).toInt64) h
  else if v0 = 5 then
    Q v1 h
  else if v0 = 6 then
    iI d u_Jxf58ca_floatToIntBits_5c35a [jF (FP.l2f v1)] h u fun x1 h u =>
    Q (x1.toInt64) h
  else 
    iL d u_Jxe99ae_doubleToLongBits_ccdee [jD (FP.l2d v1)] h u fun x2 h u =>
    Q x2 h
set_option maxRecDepth 20000 in
theorem E_X12_comes {d : Nat} {v0 : Int32} {v1 : Int64} {h : MH} {u : Nat} {Q : Int64 → MH → Prop} (H : F_X12_comes d v0 v1 h u Q) : T u_X12_comes (d + 1) 0 [some (jI v0), some (jL v1), none] [] h u (qL Q) := by
  unfold F_X12_comes at H
  refine T_iload_n (pc := 0) dX12_comes_0 rfl rfl ?_
  by_cases h0 : v0 = 0
  · rw [if_pos h0] at H
    refine T_tableIn (pc := 1) (off := 43) (tgt := 44) dX12_comes_1 (by rw [h0]; decide) (by rw [h0]; decide) (by rw [h0]; rfl) (by decide) ?_
    refine T_lload_n (pc := 44) dX12_comes_44 rfl rfl ?_
    refine T_lconst (pc := 45) (v := 1) dX12_comes_45 (by decide) ?_
    refine T_land (pc := 46) dX12_comes_46 ?_
    exact T_lreturn (pc := 47) rfl dX12_comes_47 H
  rw [if_neg h0] at H
  by_cases h1 : v0 = 1
  · rw [if_pos h1] at H
    refine T_tableIn (pc := 1) (off := 47) (tgt := 48) dX12_comes_1 (by rw [h1]; decide) (by rw [h1]; decide) (by rw [h1]; rfl) (by decide) ?_
    refine T_lload_n (pc := 48) dX12_comes_48 rfl rfl ?_
    refine T_l2i (pc := 49) dX12_comes_49 ?_
    refine T_i2b (pc := 50) dX12_comes_50 ?_
    refine T_i2l (pc := 51) dX12_comes_51 ?_
    exact T_lreturn (pc := 52) rfl dX12_comes_52 H
  rw [if_neg h1] at H
  by_cases h2 : v0 = 2
  · rw [if_pos h2] at H
    refine T_tableIn (pc := 1) (off := 52) (tgt := 53) dX12_comes_1 (by rw [h2]; decide) (by rw [h2]; decide) (by rw [h2]; rfl) (by decide) ?_
    refine T_lload_n (pc := 53) dX12_comes_53 rfl rfl ?_
    refine T_ldc2 (pc := 54) (v := 65535) dX12_comes_54 c_5_112 ?_
    refine T_land (pc := 57) dX12_comes_57 ?_
    exact T_lreturn (pc := 58) rfl dX12_comes_58 H
  rw [if_neg h2] at H
  by_cases h3 : v0 = 3
  · rw [if_pos h3] at H
    refine T_tableIn (pc := 1) (off := 58) (tgt := 59) dX12_comes_1 (by rw [h3]; decide) (by rw [h3]; decide) (by rw [h3]; rfl) (by decide) ?_
    refine T_lload_n (pc := 59) dX12_comes_59 rfl rfl ?_
    refine T_l2i (pc := 60) dX12_comes_60 ?_
    refine T_i2s (pc := 61) dX12_comes_61 ?_
    refine T_i2l (pc := 62) dX12_comes_62 ?_
    exact T_lreturn (pc := 63) rfl dX12_comes_63 H
  rw [if_neg h3] at H
  by_cases h4 : v0 = 4
  · rw [if_pos h4] at H
    refine T_tableIn (pc := 1) (off := 63) (tgt := 64) dX12_comes_1 (by rw [h4]; decide) (by rw [h4]; decide) (by rw [h4]; rfl) (by decide) ?_
    refine T_lload_n (pc := 64) dX12_comes_64 rfl rfl ?_
    refine T_l2i (pc := 65) dX12_comes_65 ?_
    refine T_i2l (pc := 66) dX12_comes_66 ?_
    exact T_lreturn (pc := 67) rfl dX12_comes_67 H
  rw [if_neg h4] at H
  by_cases h5 : v0 = 5
  · rw [if_pos h5] at H
    refine T_tableIn (pc := 1) (off := 67) (tgt := 68) dX12_comes_1 (by rw [h5]; decide) (by rw [h5]; decide) (by rw [h5]; rfl) (by decide) ?_
    refine T_lload_n (pc := 68) dX12_comes_68 rfl rfl ?_
    exact T_lreturn (pc := 69) rfl dX12_comes_69 H
  rw [if_neg h5] at H
  by_cases h6 : v0 = 6
  · rw [if_pos h6] at H
    refine T_tableIn (pc := 1) (off := 69) (tgt := 70) dX12_comes_1 (by rw [h6]; decide) (by rw [h6]; decide) (by rw [h6]; rfl) (by decide) ?_
    refine T_lload_n (pc := 70) dX12_comes_70 rfl rfl ?_
    refine T_l2f (pc := 71) dX12_comes_71 ?_
    refine T_invS (pc := 72) (av := [jF (FP.l2f v1)]) (rest := []) dX12_comes_72 mf_Jxf58ca_floatToIntBits_5c35a c_5_113 c_5_114 rfl (Nat.le_of_ble_eq_true rfl) rfl (iI_k (iI_mono (fun x1 h u H => ?_) H))
    refine T_i2l (pc := 75) dX12_comes_75 ?_
    exact T_lreturn (pc := 76) rfl dX12_comes_76 H
  rw [if_neg h6] at H
  have e0 : (v0 : Int32).toInt ≠ 0 := fun q => h0 (Int32.toInt_inj.mp (q.trans (by decide)))
  have e1 : (v0 : Int32).toInt ≠ 1 := fun q => h1 (Int32.toInt_inj.mp (q.trans (by decide)))
  have e2 : (v0 : Int32).toInt ≠ 2 := fun q => h2 (Int32.toInt_inj.mp (q.trans (by decide)))
  have e3 : (v0 : Int32).toInt ≠ 3 := fun q => h3 (Int32.toInt_inj.mp (q.trans (by decide)))
  have e4 : (v0 : Int32).toInt ≠ 4 := fun q => h4 (Int32.toInt_inj.mp (q.trans (by decide)))
  have e5 : (v0 : Int32).toInt ≠ 5 := fun q => h5 (Int32.toInt_inj.mp (q.trans (by decide)))
  have e6 : (v0 : Int32).toInt ≠ 6 := fun q => h6 (Int32.toInt_inj.mp (q.trans (by decide)))
  refine T_tableOut (pc := 1) (tgt := 77) dX12_comes_1 (by omega) (by decide) ?_
  refine T_lload_n (pc := 77) dX12_comes_77 rfl rfl ?_
  refine T_l2d (pc := 78) dX12_comes_78 ?_
  refine T_invS (pc := 79) (av := [jD (FP.l2d v1)]) (rest := []) dX12_comes_79 mf_Jxe99ae_doubleToLongBits_ccdee c_5_123 c_5_124 rfl (Nat.le_of_ble_eq_true rfl) rfl (iL_k (iL_mono (fun x2 h u H => ?_) H))
  exact T_lreturn (pc := 82) rfl dX12_comes_82 H
theorem I_X12_comes {d : Nat} {v0 : Int32} {v1 : Int64} {h : MH} {u : Nat} {K : Int64 → MH → Nat → Prop} (u1 : Nat) (hu : u1 ≤ u) (H : F_X12_comes d v0 v1 h u1 (fun x h2 => K x h2 (u - u1))) : iL (d + 1) u_X12_comes [jI v0, jL v1] h u K := inv.of u1 hu (Ct.of (by decide +kernel) rfl (Nat.le_of_ble_eq_true rfl) rfl (E_X12_comes H))
theorem dX12_isWidened_0 : decode cX12_isWidened 0 = .ok (.iload_n 0, 1) := by decide +kernel
theorem dX12_isWidened_1 : decode cX12_isWidened 1 = .ok (.iload_n 1, 1) := by decide +kernel
theorem dX12_isWidened_2 : decode cX12_isWidened 2 = .ok (.if_icmp .ne 5, 3) := by decide +kernel
theorem dX12_isWidened_5 : decode cX12_isWidened 5 = .ok (.iconst 1, 1) := by decide +kernel
theorem dX12_isWidened_6 : decode cX12_isWidened 6 = .ok (.ireturn, 1) := by decide +kernel
theorem dX12_isWidened_7 : decode cX12_isWidened 7 = .ok (.iload_n 0, 1) := by decide +kernel
theorem dX12_isWidened_8 : decode cX12_isWidened 8 = .ok (.ifCond .le 44, 3) := by decide +kernel
theorem dX12_isWidened_11 : decode cX12_isWidened 11 = .ok (.iload_n 1, 1) := by decide +kernel
theorem dX12_isWidened_12 : decode cX12_isWidened 12 = .ok (.bipush 8, 2) := by decide +kernel
theorem dX12_isWidened_14 : decode cX12_isWidened 14 = .ok (.if_icmp .ge 38, 3) := by decide +kernel
theorem dX12_isWidened_17 : decode cX12_isWidened 17 = .ok (.iload_n 0, 1) := by decide +kernel
theorem dX12_isWidened_18 : decode cX12_isWidened 18 = .ok (.iconst 1, 1) := by decide +kernel
theorem dX12_isWidened_19 : decode cX12_isWidened 19 = .ok (.if_icmp .ne 11, 3) := by decide +kernel
theorem dX12_isWidened_22 : decode cX12_isWidened 22 = .ok (.iload_n 1, 1) := by decide +kernel
theorem dX12_isWidened_23 : decode cX12_isWidened 23 = .ok (.iconst 3, 1) := by decide +kernel
theorem dX12_isWidened_24 : decode cX12_isWidened 24 = .ok (.if_icmp .lt 28, 3) := by decide +kernel
theorem dX12_isWidened_27 : decode cX12_isWidened 27 = .ok (.goto 21, 3) := by decide +kernel
theorem dX12_isWidened_30 : decode cX12_isWidened 30 = .ok (.iload_n 0, 1) := by decide +kernel
theorem dX12_isWidened_31 : decode cX12_isWidened 31 = .ok (.iconst 2, 1) := by decide +kernel
theorem dX12_isWidened_32 : decode cX12_isWidened 32 = .ok (.if_icmp .ne 11, 3) := by decide +kernel
theorem dX12_isWidened_35 : decode cX12_isWidened 35 = .ok (.iload_n 1, 1) := by decide +kernel
theorem dX12_isWidened_36 : decode cX12_isWidened 36 = .ok (.iconst 4, 1) := by decide +kernel
theorem dX12_isWidened_37 : decode cX12_isWidened 37 = .ok (.if_icmp .lt 15, 3) := by decide +kernel
theorem dX12_isWidened_40 : decode cX12_isWidened 40 = .ok (.goto 8, 3) := by decide +kernel
theorem dX12_isWidened_43 : decode cX12_isWidened 43 = .ok (.iload_n 1, 1) := by decide +kernel
theorem dX12_isWidened_44 : decode cX12_isWidened 44 = .ok (.iload_n 0, 1) := by decide +kernel
theorem dX12_isWidened_45 : decode cX12_isWidened 45 = .ok (.if_icmp .le 7, 3) := by decide +kernel
theorem dX12_isWidened_48 : decode cX12_isWidened 48 = .ok (.iconst 1, 1) := by decide +kernel
theorem dX12_isWidened_49 : decode cX12_isWidened 49 = .ok (.goto 4, 3) := by decide +kernel
theorem dX12_isWidened_52 : decode cX12_isWidened 52 = .ok (.iconst 0, 1) := by decide +kernel
theorem dX12_isWidened_53 : decode cX12_isWidened 53 = .ok (.ireturn, 1) := by decide +kernel
def F_X12_isWidened (d : Nat) (v0 : Int32) (v1 : Int32) (h : MH) (u : Nat) (Q : Int32 → MH → Prop) : Prop :=
  if v0 = v1 then
    nz 1 ∧ Q 1 h
  else
    if v0 ≤ 0 then
      nz 0 ∧ Q 0 h
    else
      if 8 ≤ v1 then
        nz 0 ∧ Q 0 h
      else
        if v0 = 1 then
          if v1 < 3 then
            nz 0 ∧ Q 0 h
          else
            nz 1 ∧ Q 1 h
        else
          if v0 = 2 then
            if v1 < 4 then
              nz 0 ∧ Q 0 h
            else
              nz 1 ∧ Q 1 h
          else
            if v1 ≤ v0 then
              nz 0 ∧ Q 0 h
            else
              nz 1 ∧ Q 1 h
set_option maxRecDepth 20000 in
theorem E_X12_isWidened {d : Nat} {v0 : Int32} {v1 : Int32} {h : MH} {u : Nat} {Q : Int32 → MH → Prop} (H : F_X12_isWidened d v0 v1 h u Q) : T u_X12_isWidened d 0 [some (jI v0), some (jI v1)] [] h u (qI Q) := by
  unfold F_X12_isWidened at H
  refine T_iload_n (pc := 0) dX12_isWidened_0 rfl rfl ?_
  refine T_iload_n (pc := 1) dX12_isWidened_1 rfl rfl ?_
  refine T_icmp_ne (pc := 2) (tgt := 7) dX12_isWidened_2 (by decide) (fun hc => ?_) (fun hc => ?_)
  · rw [if_neg hc] at H
    refine T_iload_n (pc := 7) dX12_isWidened_7 rfl rfl ?_
    refine T_if_le (pc := 8) (tgt := 52) dX12_isWidened_8 (by decide) (fun hc => ?_) (fun hc => ?_)
    · rw [if_pos hc] at H
      refine T_iconst (pc := 52) (v := 0) dX12_isWidened_52 (by decide) ?_
      exact T_ireturn (pc := 53) rfl (nz_nar H.1) dX12_isWidened_53 H.2
    · rw [if_neg hc] at H
      refine T_iload_n (pc := 11) dX12_isWidened_11 rfl rfl ?_
      refine T_bipush (pc := 12) (v := 8) dX12_isWidened_12 (by decide) ?_
      refine T_icmp_ge (pc := 14) (tgt := 52) dX12_isWidened_14 (by decide) (fun hc => ?_) (fun hc => ?_)
      · rw [if_pos hc] at H
        refine T_iconst (pc := 52) (v := 0) dX12_isWidened_52 (by decide) ?_
        exact T_ireturn (pc := 53) rfl (nz_nar H.1) dX12_isWidened_53 H.2
      · rw [if_neg hc] at H
        refine T_iload_n (pc := 17) dX12_isWidened_17 rfl rfl ?_
        refine T_iconst (pc := 18) (v := 1) dX12_isWidened_18 (by decide) ?_
        refine T_icmp_ne (pc := 19) (tgt := 30) dX12_isWidened_19 (by decide) (fun hc => ?_) (fun hc => ?_)
        · rw [if_neg hc] at H
          refine T_iload_n (pc := 30) dX12_isWidened_30 rfl rfl ?_
          refine T_iconst (pc := 31) (v := 2) dX12_isWidened_31 (by decide) ?_
          refine T_icmp_ne (pc := 32) (tgt := 43) dX12_isWidened_32 (by decide) (fun hc => ?_) (fun hc => ?_)
          · rw [if_neg hc] at H
            refine T_iload_n (pc := 43) dX12_isWidened_43 rfl rfl ?_
            refine T_iload_n (pc := 44) dX12_isWidened_44 rfl rfl ?_
            refine T_icmp_le (pc := 45) (tgt := 52) dX12_isWidened_45 (by decide) (fun hc => ?_) (fun hc => ?_)
            · rw [if_pos hc] at H
              refine T_iconst (pc := 52) (v := 0) dX12_isWidened_52 (by decide) ?_
              exact T_ireturn (pc := 53) rfl (nz_nar H.1) dX12_isWidened_53 H.2
            · rw [if_neg hc] at H
              refine T_iconst (pc := 48) (v := 1) dX12_isWidened_48 (by decide) ?_
              refine T_goto (pc := 49) (tgt := 53) dX12_isWidened_49 (by decide) ?_
              exact T_ireturn (pc := 53) rfl (nz_nar H.1) dX12_isWidened_53 H.2
          · rw [if_pos hc] at H
            refine T_iload_n (pc := 35) dX12_isWidened_35 rfl rfl ?_
            refine T_iconst (pc := 36) (v := 4) dX12_isWidened_36 (by decide) ?_
            refine T_icmp_lt (pc := 37) (tgt := 52) dX12_isWidened_37 (by decide) (fun hc => ?_) (fun hc => ?_)
            · rw [if_pos hc] at H
              refine T_iconst (pc := 52) (v := 0) dX12_isWidened_52 (by decide) ?_
              exact T_ireturn (pc := 53) rfl (nz_nar H.1) dX12_isWidened_53 H.2
            · rw [if_neg hc] at H
              refine T_goto (pc := 40) (tgt := 48) dX12_isWidened_40 (by decide) ?_
              refine T_iconst (pc := 48) (v := 1) dX12_isWidened_48 (by decide) ?_
              refine T_goto (pc := 49) (tgt := 53) dX12_isWidened_49 (by decide) ?_
              exact T_ireturn (pc := 53) rfl (nz_nar H.1) dX12_isWidened_53 H.2
        · rw [if_pos hc] at H
          refine T_iload_n (pc := 22) dX12_isWidened_22 rfl rfl ?_
          refine T_iconst (pc := 23) (v := 3) dX12_isWidened_23 (by decide) ?_
          refine T_icmp_lt (pc := 24) (tgt := 52) dX12_isWidened_24 (by decide) (fun hc => ?_) (fun hc => ?_)
          · rw [if_pos hc] at H
            refine T_iconst (pc := 52) (v := 0) dX12_isWidened_52 (by decide) ?_
            exact T_ireturn (pc := 53) rfl (nz_nar H.1) dX12_isWidened_53 H.2
          · rw [if_neg hc] at H
            refine T_goto (pc := 27) (tgt := 48) dX12_isWidened_27 (by decide) ?_
            refine T_iconst (pc := 48) (v := 1) dX12_isWidened_48 (by decide) ?_
            refine T_goto (pc := 49) (tgt := 53) dX12_isWidened_49 (by decide) ?_
            exact T_ireturn (pc := 53) rfl (nz_nar H.1) dX12_isWidened_53 H.2
  · rw [if_pos hc] at H
    refine T_iconst (pc := 5) (v := 1) dX12_isWidened_5 (by decide) ?_
    exact T_ireturn (pc := 6) rfl (nz_nar H.1) dX12_isWidened_6 H.2
theorem I_X12_isWidened {d : Nat} {v0 : Int32} {v1 : Int32} {h : MH} {u : Nat} {K : Int32 → MH → Nat → Prop} (u1 : Nat) (hu : u1 ≤ u) (H : F_X12_isWidened d v0 v1 h u1 (fun x h2 => K x h2 (u - u1))) : iI d u_X12_isWidened [jI v0, jI v1] h u K := inv.of u1 hu (Ct.of (by decide +kernel) rfl (Nat.le_of_ble_eq_true rfl) rfl (E_X12_isWidened H))
theorem dX12_widened_0 : decode cX12_widened 0 = .ok (.iload_n 0, 1) := by decide +kernel
theorem dX12_widened_1 : decode cX12_widened 1 = .ok (.iload_n 1, 1) := by decide +kernel
theorem dX12_widened_2 : decode cX12_widened 2 = .ok (.if_icmp .eq 9, 3) := by decide +kernel
theorem dX12_widened_5 : decode cX12_widened 5 = .ok (.iload_n 1, 1) := by decide +kernel
theorem dX12_widened_6 : decode cX12_widened 6 = .ok (.bipush 6, 2) := by decide +kernel
theorem dX12_widened_8 : decode cX12_widened 8 = .ok (.if_icmp .ge 5, 3) := by decide +kernel
theorem dX12_widened_11 : decode cX12_widened 11 = .ok (.lload_n 2, 1) := by decide +kernel
theorem dX12_widened_12 : decode cX12_widened 12 = .ok (.lreturn, 1) := by decide +kernel
theorem dX12_widened_13 : decode cX12_widened 13 = .ok (.iload_n 1, 1) := by decide +kernel
theorem dX12_widened_14 : decode cX12_widened 14 = .ok (.bipush 6, 2) := by decide +kernel
theorem dX12_widened_16 : decode cX12_widened 16 = .ok (.if_icmp .ne 10, 3) := by decide +kernel
theorem dX12_widened_19 : decode cX12_widened 19 = .ok (.lload_n 2, 1) := by decide +kernel
theorem dX12_widened_20 : decode cX12_widened 20 = .ok (.l2f, 1) := by decide +kernel
theorem dX12_widened_21 : decode cX12_widened 21 = .ok (.invokestatic 133, 3) := by decide +kernel
theorem dX12_widened_24 : decode cX12_widened 24 = .ok (.i2l, 1) := by decide +kernel
theorem dX12_widened_25 : decode cX12_widened 25 = .ok (.lreturn, 1) := by decide +kernel
theorem dX12_widened_26 : decode cX12_widened 26 = .ok (.iload_n 0, 1) := by decide +kernel
theorem dX12_widened_27 : decode cX12_widened 27 = .ok (.bipush 6, 2) := by decide +kernel
theorem dX12_widened_29 : decode cX12_widened 29 = .ok (.if_icmp .ne 12, 3) := by decide +kernel
theorem dX12_widened_32 : decode cX12_widened 32 = .ok (.lload_n 2, 1) := by decide +kernel
theorem dX12_widened_33 : decode cX12_widened 33 = .ok (.l2i, 1) := by decide +kernel
theorem dX12_widened_34 : decode cX12_widened 34 = .ok (.invokestatic 145, 3) := by decide +kernel
theorem dX12_widened_37 : decode cX12_widened 37 = .ok (.f2d, 1) := by decide +kernel
theorem dX12_widened_38 : decode cX12_widened 38 = .ok (.goto 5, 3) := by decide +kernel
theorem dX12_widened_41 : decode cX12_widened 41 = .ok (.lload_n 2, 1) := by decide +kernel
theorem dX12_widened_42 : decode cX12_widened 42 = .ok (.l2d, 1) := by decide +kernel
theorem dX12_widened_43 : decode cX12_widened 43 = .ok (.invokestatic 139, 3) := by decide +kernel
theorem dX12_widened_46 : decode cX12_widened 46 = .ok (.lreturn, 1) := by decide +kernel
def F_X12_widened (d : Nat) (v0 : Int32) (v1 : Int32) (v2 : Int64) (h : MH) (u : Nat) (Q : Int64 → MH → Prop) : Prop :=
  if v0 = v1 then
    Q v2 h
  else
    if 6 ≤ v1 then
      if v1 = 6 then
        iI d u_Jxf58ca_floatToIntBits_5c35a [jF (FP.l2f v2)] h u fun x3 h u =>
        Q (x3.toInt64) h
      else
        if v0 = 6 then
          vn_sni2f (v2.toInt32) = false ∧
          vf_n64 (FP.f2d ((v2.toInt32).toUInt32)) ∧
          iL d u_Jxe99ae_doubleToLongBits_ccdee [jD (FP.f2d ((v2.toInt32).toUInt32))] h u fun x2 h u =>
          Q x2 h
        else
          iL d u_Jxe99ae_doubleToLongBits_ccdee [jD (FP.l2d v2)] h u fun x1 h u =>
          Q x1 h
    else
      Q v2 h
set_option maxRecDepth 20000 in
theorem E_X12_widened {d : Nat} {v0 : Int32} {v1 : Int32} {v2 : Int64} {h : MH} {u : Nat} {Q : Int64 → MH → Prop} (H : F_X12_widened d v0 v1 v2 h u Q) : T u_X12_widened (d + 1) 0 [some (jI v0), some (jI v1), some (jL v2), none] [] h u (qL Q) := by
  unfold F_X12_widened at H
  refine T_iload_n (pc := 0) dX12_widened_0 rfl rfl ?_
  refine T_iload_n (pc := 1) dX12_widened_1 rfl rfl ?_
  refine T_icmp_eq (pc := 2) (tgt := 11) dX12_widened_2 (by decide) (fun hc => ?_) (fun hc => ?_)
  · rw [if_pos hc] at H
    refine T_lload_n (pc := 11) dX12_widened_11 rfl rfl ?_
    exact T_lreturn (pc := 12) rfl dX12_widened_12 H
  · rw [if_neg hc] at H
    refine T_iload_n (pc := 5) dX12_widened_5 rfl rfl ?_
    refine T_bipush (pc := 6) (v := 6) dX12_widened_6 (by decide) ?_
    refine T_icmp_ge (pc := 8) (tgt := 13) dX12_widened_8 (by decide) (fun hc => ?_) (fun hc => ?_)
    · rw [if_pos hc] at H
      refine T_iload_n (pc := 13) dX12_widened_13 rfl rfl ?_
      refine T_bipush (pc := 14) (v := 6) dX12_widened_14 (by decide) ?_
      refine T_icmp_ne (pc := 16) (tgt := 26) dX12_widened_16 (by decide) (fun hc => ?_) (fun hc => ?_)
      · rw [if_neg hc] at H
        refine T_iload_n (pc := 26) dX12_widened_26 rfl rfl ?_
        refine T_bipush (pc := 27) (v := 6) dX12_widened_27 (by decide) ?_
        refine T_icmp_ne (pc := 29) (tgt := 41) dX12_widened_29 (by decide) (fun hc => ?_) (fun hc => ?_)
        · rw [if_neg hc] at H
          refine T_lload_n (pc := 41) dX12_widened_41 rfl rfl ?_
          refine T_l2d (pc := 42) dX12_widened_42 ?_
          refine T_invS (pc := 43) (av := [jD (FP.l2d v2)]) (rest := []) dX12_widened_43 mf_Jxe99ae_doubleToLongBits_ccdee c_5_123 c_5_124 rfl (Nat.le_of_ble_eq_true rfl) rfl (iL_k (iL_mono (fun x1 h u H => ?_) H))
          exact T_lreturn (pc := 46) rfl dX12_widened_46 H
        · rw [if_pos hc] at H
          refine T_lload_n (pc := 32) dX12_widened_32 rfl rfl ?_
          refine T_l2i (pc := 33) dX12_widened_33 ?_
          obtain ⟨H0, H⟩ := H
          refine T_bits2f (pc := 34) dX12_widened_34 c_5_136 c_5_138 c_5_137 c_1_11 H0 (Nat.le_of_ble_eq_true rfl) ?_
          obtain ⟨H0, H⟩ := H
          refine T_f2d (pc := 37) dX12_widened_37 H0 ?_
          refine T_goto (pc := 38) (tgt := 43) dX12_widened_38 (by decide) ?_
          refine T_invS (pc := 43) (av := [jD (FP.f2d ((v2.toInt32).toUInt32))]) (rest := []) dX12_widened_43 mf_Jxe99ae_doubleToLongBits_ccdee c_5_123 c_5_124 rfl (Nat.le_of_ble_eq_true rfl) rfl (iL_k (iL_mono (fun x2 h u H => ?_) H))
          exact T_lreturn (pc := 46) rfl dX12_widened_46 H
      · rw [if_pos hc] at H
        refine T_lload_n (pc := 19) dX12_widened_19 rfl rfl ?_
        refine T_l2f (pc := 20) dX12_widened_20 ?_
        refine T_invS (pc := 21) (av := [jF (FP.l2f v2)]) (rest := []) dX12_widened_21 mf_Jxf58ca_floatToIntBits_5c35a c_5_113 c_5_114 rfl (Nat.le_of_ble_eq_true rfl) rfl (iI_k (iI_mono (fun x3 h u H => ?_) H))
        refine T_i2l (pc := 24) dX12_widened_24 ?_
        exact T_lreturn (pc := 25) rfl dX12_widened_25 H
    · rw [if_neg hc] at H
      refine T_lload_n (pc := 11) dX12_widened_11 rfl rfl ?_
      exact T_lreturn (pc := 12) rfl dX12_widened_12 H
theorem I_X12_widened {d : Nat} {v0 : Int32} {v1 : Int32} {v2 : Int64} {h : MH} {u : Nat} {K : Int64 → MH → Nat → Prop} (u1 : Nat) (hu : u1 ≤ u) (H : F_X12_widened d v0 v1 v2 h u1 (fun x h2 => K x h2 (u - u1))) : iL (d + 1) u_X12_widened [jI v0, jI v1, jL v2] h u K := inv.of u1 hu (Ct.of (by decide +kernel) rfl (Nat.le_of_ble_eq_true rfl) rfl (E_X12_widened H))
theorem dX12_compared_0 : decode cX12_compared 0 = .ok (.iload_n 0, 1) := by decide +kernel
theorem dX12_compared_1 : decode cX12_compared 1 = .ok (.bipush 6, 2) := by decide +kernel
theorem dX12_compared_3 : decode cX12_compared 3 = .ok (.if_icmp .ge 25, 3) := by decide +kernel
theorem dX12_compared_6 : decode cX12_compared 6 = .ok (.lload_n 1, 1) := by decide +kernel
theorem dX12_compared_7 : decode cX12_compared 7 = .ok (.lload_n 3, 1) := by decide +kernel
theorem dX12_compared_8 : decode cX12_compared 8 = .ok (.lcmp, 1) := by decide +kernel
theorem dX12_compared_9 : decode cX12_compared 9 = .ok (.ifCond .ge 7, 3) := by decide +kernel
theorem dX12_compared_12 : decode cX12_compared 12 = .ok (.iconst (-1), 1) := by decide +kernel
theorem dX12_compared_13 : decode cX12_compared 13 = .ok (.goto 14, 3) := by decide +kernel
theorem dX12_compared_16 : decode cX12_compared 16 = .ok (.lload_n 1, 1) := by decide +kernel
theorem dX12_compared_17 : decode cX12_compared 17 = .ok (.lload_n 3, 1) := by decide +kernel
theorem dX12_compared_18 : decode cX12_compared 18 = .ok (.lcmp, 1) := by decide +kernel
theorem dX12_compared_19 : decode cX12_compared 19 = .ok (.ifCond .le 7, 3) := by decide +kernel
theorem dX12_compared_22 : decode cX12_compared 22 = .ok (.iconst 1, 1) := by decide +kernel
theorem dX12_compared_23 : decode cX12_compared 23 = .ok (.goto 4, 3) := by decide +kernel
theorem dX12_compared_26 : decode cX12_compared 26 = .ok (.iconst 0, 1) := by decide +kernel
theorem dX12_compared_27 : decode cX12_compared 27 = .ok (.ireturn, 1) := by decide +kernel
theorem dX12_compared_28 : decode cX12_compared 28 = .ok (.iload_n 0, 1) := by decide +kernel
theorem dX12_compared_29 : decode cX12_compared 29 = .ok (.bipush 6, 2) := by decide +kernel
theorem dX12_compared_31 : decode cX12_compared 31 = .ok (.if_icmp .ne 12, 3) := by decide +kernel
theorem dX12_compared_34 : decode cX12_compared 34 = .ok (.lload_n 1, 1) := by decide +kernel
theorem dX12_compared_35 : decode cX12_compared 35 = .ok (.l2i, 1) := by decide +kernel
theorem dX12_compared_36 : decode cX12_compared 36 = .ok (.invokestatic 145, 3) := by decide +kernel
theorem dX12_compared_39 : decode cX12_compared 39 = .ok (.f2d, 1) := by decide +kernel
theorem dX12_compared_40 : decode cX12_compared 40 = .ok (.goto 7, 3) := by decide +kernel
theorem dX12_compared_43 : decode cX12_compared 43 = .ok (.lload_n 1, 1) := by decide +kernel
theorem dX12_compared_44 : decode cX12_compared 44 = .ok (.invokestatic 149, 3) := by decide +kernel
theorem dX12_compared_47 : decode cX12_compared 47 = .ok (.dstore 5, 2) := by decide +kernel
theorem dX12_compared_49 : decode cX12_compared 49 = .ok (.iload_n 0, 1) := by decide +kernel
theorem dX12_compared_50 : decode cX12_compared 50 = .ok (.bipush 6, 2) := by decide +kernel
theorem dX12_compared_52 : decode cX12_compared 52 = .ok (.if_icmp .ne 12, 3) := by decide +kernel
theorem dX12_compared_55 : decode cX12_compared 55 = .ok (.lload_n 3, 1) := by decide +kernel
theorem dX12_compared_56 : decode cX12_compared 56 = .ok (.l2i, 1) := by decide +kernel
theorem dX12_compared_57 : decode cX12_compared 57 = .ok (.invokestatic 145, 3) := by decide +kernel
theorem dX12_compared_60 : decode cX12_compared 60 = .ok (.f2d, 1) := by decide +kernel
theorem dX12_compared_61 : decode cX12_compared 61 = .ok (.goto 7, 3) := by decide +kernel
theorem dX12_compared_64 : decode cX12_compared 64 = .ok (.lload_n 3, 1) := by decide +kernel
theorem dX12_compared_65 : decode cX12_compared 65 = .ok (.invokestatic 149, 3) := by decide +kernel
theorem dX12_compared_68 : decode cX12_compared 68 = .ok (.dstore 7, 2) := by decide +kernel
theorem dX12_compared_70 : decode cX12_compared 70 = .ok (.dload 5, 2) := by decide +kernel
theorem dX12_compared_72 : decode cX12_compared 72 = .ok (.dload 7, 2) := by decide +kernel
theorem dX12_compared_74 : decode cX12_compared 74 = .ok (.dcmp .g, 1) := by decide +kernel
theorem dX12_compared_75 : decode cX12_compared 75 = .ok (.ifCond .ge 7, 3) := by decide +kernel
theorem dX12_compared_78 : decode cX12_compared 78 = .ok (.iconst (-1), 1) := by decide +kernel
theorem dX12_compared_79 : decode cX12_compared 79 = .ok (.goto 36, 3) := by decide +kernel
theorem dX12_compared_82 : decode cX12_compared 82 = .ok (.dload 5, 2) := by decide +kernel
theorem dX12_compared_84 : decode cX12_compared 84 = .ok (.dload 7, 2) := by decide +kernel
theorem dX12_compared_86 : decode cX12_compared 86 = .ok (.dcmp .l, 1) := by decide +kernel
theorem dX12_compared_87 : decode cX12_compared 87 = .ok (.ifCond .le 7, 3) := by decide +kernel
theorem dX12_compared_90 : decode cX12_compared 90 = .ok (.iconst 1, 1) := by decide +kernel
theorem dX12_compared_91 : decode cX12_compared 91 = .ok (.goto 24, 3) := by decide +kernel
theorem dX12_compared_94 : decode cX12_compared 94 = .ok (.lload_n 1, 1) := by decide +kernel
theorem dX12_compared_95 : decode cX12_compared 95 = .ok (.lload_n 3, 1) := by decide +kernel
theorem dX12_compared_96 : decode cX12_compared 96 = .ok (.lcmp, 1) := by decide +kernel
theorem dX12_compared_97 : decode cX12_compared 97 = .ok (.ifCond .ge 7, 3) := by decide +kernel
theorem dX12_compared_100 : decode cX12_compared 100 = .ok (.iconst (-1), 1) := by decide +kernel
theorem dX12_compared_101 : decode cX12_compared 101 = .ok (.goto 14, 3) := by decide +kernel
theorem dX12_compared_104 : decode cX12_compared 104 = .ok (.lload_n 1, 1) := by decide +kernel
theorem dX12_compared_105 : decode cX12_compared 105 = .ok (.lload_n 3, 1) := by decide +kernel
theorem dX12_compared_106 : decode cX12_compared 106 = .ok (.lcmp, 1) := by decide +kernel
theorem dX12_compared_107 : decode cX12_compared 107 = .ok (.ifCond .le 7, 3) := by decide +kernel
theorem dX12_compared_110 : decode cX12_compared 110 = .ok (.iconst 1, 1) := by decide +kernel
theorem dX12_compared_111 : decode cX12_compared 111 = .ok (.goto 4, 3) := by decide +kernel
theorem dX12_compared_114 : decode cX12_compared 114 = .ok (.iconst 0, 1) := by decide +kernel
theorem dX12_compared_115 : decode cX12_compared 115 = .ok (.ireturn, 1) := by decide +kernel
def F_X12_compared_68 (d : Nat) (v1 : Int64) (v3 : Int64) (v5 : UInt64) (s0 : UInt64) (h : MH) (u : Nat) (Q : Int32 → MH → Prop) : Prop :=
  if 0 ≤ (Op.cmpValue (FP.dcmp v5 s0) .g) then
    if (Op.cmpValue (FP.dcmp v5 s0) .l) ≤ 0 then
      if 0 ≤ (lg_cmp v1 v3) then
        if (lg_cmp v1 v3) ≤ 0 then
          Q 0 h
        else
          Q 1 h
      else
        Q (-1) h
    else
      Q 1 h
  else
    Q (-1) h
set_option maxRecDepth 20000 in
theorem E_X12_compared_68 {d : Nat} {v1 : Int64} {v3 : Int64} {v5 : UInt64} {s0 : UInt64} {h : MH} {u : Nat} {Q : Int32 → MH → Prop} (H : F_X12_compared_68 d v1 v3 v5 s0 h u Q) : T u_X12_compared (d + 1) 68 [none, some (jL v1), none, some (jL v3), none, some (jD v5), none, none, none] [jD s0] h u (qI Q) := by
  unfold F_X12_compared_68 at H
  refine T_dstore (pc := 68) (ls2 := [none, some (jL v1), none, some (jL v3), none, some (jD v5), none, some (jD s0), none]) dX12_compared_68 (Nat.le_of_ble_eq_true rfl) rfl ?_
  refine T_dload (pc := 70) dX12_compared_70 rfl ?_
  refine T_dload (pc := 72) dX12_compared_72 rfl ?_
  refine T_dcmp (pc := 74) dX12_compared_74 ?_
  refine T_if_ge (pc := 75) (tgt := 82) dX12_compared_75 (by decide) (fun hc => ?_) (fun hc => ?_)
  · rw [if_pos hc] at H
    refine T_dload (pc := 82) dX12_compared_82 rfl ?_
    refine T_dload (pc := 84) dX12_compared_84 rfl ?_
    refine T_dcmp (pc := 86) dX12_compared_86 ?_
    refine T_if_le (pc := 87) (tgt := 94) dX12_compared_87 (by decide) (fun hc => ?_) (fun hc => ?_)
    · rw [if_pos hc] at H
      refine T_lload_n (pc := 94) dX12_compared_94 rfl rfl ?_
      refine T_lload_n (pc := 95) dX12_compared_95 rfl rfl ?_
      refine T_lcmp (pc := 96) dX12_compared_96 ?_
      refine T_if_ge (pc := 97) (tgt := 104) dX12_compared_97 (by decide) (fun hc => ?_) (fun hc => ?_)
      · rw [if_pos hc] at H
        refine T_lload_n (pc := 104) dX12_compared_104 rfl rfl ?_
        refine T_lload_n (pc := 105) dX12_compared_105 rfl rfl ?_
        refine T_lcmp (pc := 106) dX12_compared_106 ?_
        refine T_if_le (pc := 107) (tgt := 114) dX12_compared_107 (by decide) (fun hc => ?_) (fun hc => ?_)
        · rw [if_pos hc] at H
          refine T_iconst (pc := 114) (v := 0) dX12_compared_114 (by decide) ?_
          exact T_ireturn (pc := 115) rfl rfl dX12_compared_115 H
        · rw [if_neg hc] at H
          refine T_iconst (pc := 110) (v := 1) dX12_compared_110 (by decide) ?_
          refine T_goto (pc := 111) (tgt := 115) dX12_compared_111 (by decide) ?_
          exact T_ireturn (pc := 115) rfl rfl dX12_compared_115 H
      · rw [if_neg hc] at H
        refine T_iconst (pc := 100) (v := (-1)) dX12_compared_100 (by decide) ?_
        refine T_goto (pc := 101) (tgt := 115) dX12_compared_101 (by decide) ?_
        exact T_ireturn (pc := 115) rfl rfl dX12_compared_115 H
    · rw [if_neg hc] at H
      refine T_iconst (pc := 90) (v := 1) dX12_compared_90 (by decide) ?_
      refine T_goto (pc := 91) (tgt := 115) dX12_compared_91 (by decide) ?_
      exact T_ireturn (pc := 115) rfl rfl dX12_compared_115 H
  · rw [if_neg hc] at H
    refine T_iconst (pc := 78) (v := (-1)) dX12_compared_78 (by decide) ?_
    refine T_goto (pc := 79) (tgt := 115) dX12_compared_79 (by decide) ?_
    exact T_ireturn (pc := 115) rfl rfl dX12_compared_115 H
def F_X12_compared_47 (d : Nat) (v0 : Int32) (v1 : Int64) (v3 : Int64) (s0 : UInt64) (h : MH) (u : Nat) (Q : Int32 → MH → Prop) : Prop :=
  if v0 = 6 then
    vn_sni2f (v3.toInt32) = false ∧
    vf_n64 (FP.f2d ((v3.toInt32).toUInt32)) ∧
    F_X12_compared_68 d v1 v3 s0 (FP.f2d ((v3.toInt32).toUInt32)) h u Q
  else
    vn_snl2d v3 = false ∧
    F_X12_compared_68 d v1 v3 s0 (v3.toUInt64) h u Q
set_option maxRecDepth 20000 in
theorem E_X12_compared_47 {d : Nat} {v0 : Int32} {v1 : Int64} {v3 : Int64} {s0 : UInt64} {h : MH} {u : Nat} {Q : Int32 → MH → Prop} (H : F_X12_compared_47 d v0 v1 v3 s0 h u Q) : T u_X12_compared (d + 1) 47 [some (jI v0), some (jL v1), none, some (jL v3), none, none, none, none, none] [jD s0] h u (qI Q) := by
  unfold F_X12_compared_47 at H
  refine T_dstore (pc := 47) (ls2 := [some (jI v0), some (jL v1), none, some (jL v3), none, some (jD s0), none, none, none]) dX12_compared_47 (Nat.le_of_ble_eq_true rfl) rfl ?_
  refine T_iload_n (pc := 49) dX12_compared_49 rfl rfl ?_
  refine T_bipush (pc := 50) (v := 6) dX12_compared_50 (by decide) ?_
  refine T_icmp_ne (pc := 52) (tgt := 64) dX12_compared_52 (by decide) (fun hc => ?_) (fun hc => ?_)
  · rw [if_neg hc] at H
    refine T_lload_n (pc := 64) dX12_compared_64 rfl rfl ?_
    obtain ⟨H0, H⟩ := H
    refine T_bits2d (pc := 65) dX12_compared_65 c_6_97 c_6_99 c_6_98 c_1_12 H0 (Nat.le_of_ble_eq_true rfl) ?_
    exact T.forget (E_X12_compared_68 H) ⟨rfl, rfl, rfl, trivial⟩
  · rw [if_pos hc] at H
    refine T_lload_n (pc := 55) dX12_compared_55 rfl rfl ?_
    refine T_l2i (pc := 56) dX12_compared_56 ?_
    obtain ⟨H0, H⟩ := H
    refine T_bits2f (pc := 57) dX12_compared_57 c_5_136 c_5_138 c_5_137 c_1_11 H0 (Nat.le_of_ble_eq_true rfl) ?_
    obtain ⟨H0, H⟩ := H
    refine T_f2d (pc := 60) dX12_compared_60 H0 ?_
    refine T_goto (pc := 61) (tgt := 68) dX12_compared_61 (by decide) ?_
    exact T.forget (E_X12_compared_68 H) ⟨rfl, rfl, rfl, trivial⟩
def F_X12_compared (d : Nat) (v0 : Int32) (v1 : Int64) (v3 : Int64) (h : MH) (u : Nat) (Q : Int32 → MH → Prop) : Prop :=
  if 6 ≤ v0 then
    if v0 = 6 then
      vn_sni2f (v1.toInt32) = false ∧
      vf_n64 (FP.f2d ((v1.toInt32).toUInt32)) ∧
      F_X12_compared_47 d v0 v1 v3 (FP.f2d ((v1.toInt32).toUInt32)) h u Q
    else
      vn_snl2d v1 = false ∧
      F_X12_compared_47 d v0 v1 v3 (v1.toUInt64) h u Q
  else
    if 0 ≤ (lg_cmp v1 v3) then
      if (lg_cmp v1 v3) ≤ 0 then
        Q 0 h
      else
        Q 1 h
    else
      Q (-1) h
set_option maxRecDepth 20000 in
theorem E_X12_compared {d : Nat} {v0 : Int32} {v1 : Int64} {v3 : Int64} {h : MH} {u : Nat} {Q : Int32 → MH → Prop} (H : F_X12_compared d v0 v1 v3 h u Q) : T u_X12_compared (d + 1) 0 [some (jI v0), some (jL v1), none, some (jL v3), none, none, none, none, none] [] h u (qI Q) := by
  unfold F_X12_compared at H
  refine T_iload_n (pc := 0) dX12_compared_0 rfl rfl ?_
  refine T_bipush (pc := 1) (v := 6) dX12_compared_1 (by decide) ?_
  refine T_icmp_ge (pc := 3) (tgt := 28) dX12_compared_3 (by decide) (fun hc => ?_) (fun hc => ?_)
  · rw [if_pos hc] at H
    refine T_iload_n (pc := 28) dX12_compared_28 rfl rfl ?_
    refine T_bipush (pc := 29) (v := 6) dX12_compared_29 (by decide) ?_
    refine T_icmp_ne (pc := 31) (tgt := 43) dX12_compared_31 (by decide) (fun hc => ?_) (fun hc => ?_)
    · rw [if_neg hc] at H
      refine T_lload_n (pc := 43) dX12_compared_43 rfl rfl ?_
      obtain ⟨H0, H⟩ := H
      refine T_bits2d (pc := 44) dX12_compared_44 c_6_97 c_6_99 c_6_98 c_1_12 H0 (Nat.le_of_ble_eq_true rfl) ?_
      exact T.forget (E_X12_compared_47 H) ⟨rfl, rfl, rfl, trivial⟩
    · rw [if_pos hc] at H
      refine T_lload_n (pc := 34) dX12_compared_34 rfl rfl ?_
      refine T_l2i (pc := 35) dX12_compared_35 ?_
      obtain ⟨H0, H⟩ := H
      refine T_bits2f (pc := 36) dX12_compared_36 c_5_136 c_5_138 c_5_137 c_1_11 H0 (Nat.le_of_ble_eq_true rfl) ?_
      obtain ⟨H0, H⟩ := H
      refine T_f2d (pc := 39) dX12_compared_39 H0 ?_
      refine T_goto (pc := 40) (tgt := 47) dX12_compared_40 (by decide) ?_
      exact T.forget (E_X12_compared_47 H) ⟨rfl, rfl, rfl, trivial⟩
  · rw [if_neg hc] at H
    refine T_lload_n (pc := 6) dX12_compared_6 rfl rfl ?_
    refine T_lload_n (pc := 7) dX12_compared_7 rfl rfl ?_
    refine T_lcmp (pc := 8) dX12_compared_8 ?_
    refine T_if_ge (pc := 9) (tgt := 16) dX12_compared_9 (by decide) (fun hc => ?_) (fun hc => ?_)
    · rw [if_pos hc] at H
      refine T_lload_n (pc := 16) dX12_compared_16 rfl rfl ?_
      refine T_lload_n (pc := 17) dX12_compared_17 rfl rfl ?_
      refine T_lcmp (pc := 18) dX12_compared_18 ?_
      refine T_if_le (pc := 19) (tgt := 26) dX12_compared_19 (by decide) (fun hc => ?_) (fun hc => ?_)
      · rw [if_pos hc] at H
        refine T_iconst (pc := 26) (v := 0) dX12_compared_26 (by decide) ?_
        exact T_ireturn (pc := 27) rfl rfl dX12_compared_27 H
      · rw [if_neg hc] at H
        refine T_iconst (pc := 22) (v := 1) dX12_compared_22 (by decide) ?_
        refine T_goto (pc := 23) (tgt := 27) dX12_compared_23 (by decide) ?_
        exact T_ireturn (pc := 27) rfl rfl dX12_compared_27 H
    · rw [if_neg hc] at H
      refine T_iconst (pc := 12) (v := (-1)) dX12_compared_12 (by decide) ?_
      refine T_goto (pc := 13) (tgt := 27) dX12_compared_13 (by decide) ?_
      exact T_ireturn (pc := 27) rfl rfl dX12_compared_27 H
theorem I_X12_compared {d : Nat} {v0 : Int32} {v1 : Int64} {v3 : Int64} {h : MH} {u : Nat} {K : Int32 → MH → Nat → Prop} (u1 : Nat) (hu : u1 ≤ u) (H : F_X12_compared d v0 v1 v3 h u1 (fun x h2 => K x h2 (u - u1))) : iI (d + 1) u_X12_compared [jI v0, jL v1, jL v3] h u K := inv.of u1 hu (Ct.of (by decide +kernel) rfl (Nat.le_of_ble_eq_true rfl) rfl (E_X12_compared H))
theorem dX12_isRow_0 : decode cX12_isRow 0 = .ok (.iload_n 1, 1) := by decide +kernel
theorem dX12_isRow_1 : decode cX12_isRow 1 = .ok (.iconst 0, 1) := by decide +kernel
theorem dX12_isRow_2 : decode cX12_isRow 2 = .ok (.aload_n 0, 1) := by decide +kernel
theorem dX12_isRow_3 : decode cX12_isRow 3 = .ok (.getfield 153, 3) := by decide +kernel
theorem dX12_isRow_6 : decode cX12_isRow 6 = .ok (.iconst 1, 1) := by decide +kernel
theorem dX12_isRow_7 : decode cX12_isRow 7 = .ok (.isub, 1) := by decide +kernel
theorem dX12_isRow_8 : decode cX12_isRow 8 = .ok (.invokestatic 156, 3) := by decide +kernel
theorem dX12_isRow_11 : decode cX12_isRow 11 = .ok (.ireturn, 1) := by decide +kernel
def F_X12_isRow (d : Nat) (v0 : Option Nm) (v1 : Int32) (h : MH) (u : Nat) (Q : Int32 → MH → Prop) : Prop :=
  gI h v0 11 3 fun x1 =>
  iI d u_X12_in [jI v1, jI 0, jI (x1 - 1)] h u fun x2 h u =>
  nz x2 ∧ Q x2 h
set_option maxRecDepth 20000 in
theorem E_X12_isRow {d : Nat} {v0 : Option Nm} {v1 : Int32} {h : MH} {u : Nat} {Q : Int32 → MH → Prop} (H : F_X12_isRow d v0 v1 h u Q) : T u_X12_isRow (d + 1) 0 [some (jR v0), some (jI v1)] [] h u (qI Q) := by
  unfold F_X12_isRow at H
  refine T_iload_n (pc := 0) dX12_isRow_0 rfl rfl ?_
  refine T_iconst (pc := 1) (v := 0) dX12_isRow_1 (by decide) ?_
  refine T_aload_n (pc := 2) dX12_isRow_2 rfl rfl ?_
  refine T_gI (pc := 3) fa_X12_153 dX12_isRow_3 (gI_mono (fun x1 H => ?_) H)
  refine T_iconst (pc := 6) (v := 1) dX12_isRow_6 (by decide) ?_
  refine T_isub (pc := 7) dX12_isRow_7 ?_
  refine T_invS (pc := 8) (av := [jI v1, jI 0, jI (x1 - 1)]) (rest := []) dX12_isRow_8 mf_X12_in c_5_86 c_5_87 rfl (Nat.le_of_ble_eq_true rfl) rfl (iI_k (iI_mono (fun x2 h u H => ?_) H))
  exact T_ireturn (pc := 11) rfl (nz_nar H.1) dX12_isRow_11 H.2
theorem I_X12_isRow {d : Nat} {v0 : Option Nm} {v1 : Int32} {h : MH} {u : Nat} {K : Int32 → MH → Nat → Prop} (u1 : Nat) (hu : u1 ≤ u) (H : F_X12_isRow d v0 v1 h u1 (fun x h2 => K x h2 (u - u1))) : iI (d + 1) u_X12_isRow [jR v0, jI v1] h u K := inv.of u1 hu (Ct.of (by decide +kernel) rfl (Nat.le_of_ble_eq_true rfl) rfl (E_X12_isRow H))
theorem dX12_newRow_0 : decode cX12_newRow 0 = .ok (.aload_n 0, 1) := by decide +kernel
theorem dX12_newRow_1 : decode cX12_newRow 1 = .ok (.getfield 7, 3) := by decide +kernel
theorem dX12_newRow_4 : decode cX12_newRow 4 = .ok (.aload_n 0, 1) := by decide +kernel
theorem dX12_newRow_5 : decode cX12_newRow 5 = .ok (.getfield 153, 3) := by decide +kernel
theorem dX12_newRow_8 : decode cX12_newRow 8 = .ok (.iload_n 1, 1) := by decide +kernel
theorem dX12_newRow_9 : decode cX12_newRow 9 = .ok (.iastore, 1) := by decide +kernel
theorem dX12_newRow_10 : decode cX12_newRow 10 = .ok (.aload_n 0, 1) := by decide +kernel
theorem dX12_newRow_11 : decode cX12_newRow 11 = .ok (.getfield 13, 3) := by decide +kernel
theorem dX12_newRow_14 : decode cX12_newRow 14 = .ok (.aload_n 0, 1) := by decide +kernel
theorem dX12_newRow_15 : decode cX12_newRow 15 = .ok (.getfield 153, 3) := by decide +kernel
theorem dX12_newRow_18 : decode cX12_newRow 18 = .ok (.iload_n 2, 1) := by decide +kernel
theorem dX12_newRow_19 : decode cX12_newRow 19 = .ok (.iastore, 1) := by decide +kernel
theorem dX12_newRow_20 : decode cX12_newRow 20 = .ok (.aload_n 0, 1) := by decide +kernel
theorem dX12_newRow_21 : decode cX12_newRow 21 = .ok (.getfield 16, 3) := by decide +kernel
theorem dX12_newRow_24 : decode cX12_newRow 24 = .ok (.aload_n 0, 1) := by decide +kernel
theorem dX12_newRow_25 : decode cX12_newRow 25 = .ok (.getfield 153, 3) := by decide +kernel
theorem dX12_newRow_28 : decode cX12_newRow 28 = .ok (.iconst 0, 1) := by decide +kernel
theorem dX12_newRow_29 : decode cX12_newRow 29 = .ok (.bastore, 1) := by decide +kernel
theorem dX12_newRow_30 : decode cX12_newRow 30 = .ok (.iconst 0, 1) := by decide +kernel
theorem dX12_newRow_31 : decode cX12_newRow 31 = .ok (.istore_n 3, 1) := by decide +kernel
theorem dX12_newRow_32 : decode cX12_newRow 32 = .ok (.iload_n 3, 1) := by decide +kernel
theorem dX12_newRow_33 : decode cX12_newRow 33 = .ok (.iload_n 2, 1) := by decide +kernel
theorem dX12_newRow_34 : decode cX12_newRow 34 = .ok (.if_icmp .ge 36, 3) := by decide +kernel
theorem dX12_newRow_37 : decode cX12_newRow 37 = .ok (.aload_n 0, 1) := by decide +kernel
theorem dX12_newRow_38 : decode cX12_newRow 38 = .ok (.getfield 20, 3) := by decide +kernel
theorem dX12_newRow_41 : decode cX12_newRow 41 = .ok (.bipush 20, 2) := by decide +kernel
theorem dX12_newRow_43 : decode cX12_newRow 43 = .ok (.aload_n 0, 1) := by decide +kernel
theorem dX12_newRow_44 : decode cX12_newRow 44 = .ok (.getfield 153, 3) := by decide +kernel
theorem dX12_newRow_47 : decode cX12_newRow 47 = .ok (.imul, 1) := by decide +kernel
theorem dX12_newRow_48 : decode cX12_newRow 48 = .ok (.iload_n 3, 1) := by decide +kernel
theorem dX12_newRow_49 : decode cX12_newRow 49 = .ok (.iadd, 1) := by decide +kernel
theorem dX12_newRow_50 : decode cX12_newRow 50 = .ok (.iload_n 1, 1) := by decide +kernel
theorem dX12_newRow_51 : decode cX12_newRow 51 = .ok (.bipush 8, 2) := by decide +kernel
theorem dX12_newRow_53 : decode cX12_newRow 53 = .ok (.if_icmp .ne 9, 3) := by decide +kernel
theorem dX12_newRow_56 : decode cX12_newRow 56 = .ok (.ldc2_w 160, 3) := by decide +kernel
theorem dX12_newRow_59 : decode cX12_newRow 59 = .ok (.goto 4, 3) := by decide +kernel
theorem dX12_newRow_62 : decode cX12_newRow 62 = .ok (.lconst 0, 1) := by decide +kernel
theorem dX12_newRow_63 : decode cX12_newRow 63 = .ok (.lastore, 1) := by decide +kernel
theorem dX12_newRow_64 : decode cX12_newRow 64 = .ok (.iinc 3 1, 3) := by decide +kernel
theorem dX12_newRow_67 : decode cX12_newRow 67 = .ok (.goto (-35), 3) := by decide +kernel
theorem dX12_newRow_70 : decode cX12_newRow 70 = .ok (.aload_n 0, 1) := by decide +kernel
theorem dX12_newRow_71 : decode cX12_newRow 71 = .ok (.dup, 1) := by decide +kernel
theorem dX12_newRow_72 : decode cX12_newRow 72 = .ok (.getfield 153, 3) := by decide +kernel
theorem dX12_newRow_75 : decode cX12_newRow 75 = .ok (.iconst 1, 1) := by decide +kernel
theorem dX12_newRow_76 : decode cX12_newRow 76 = .ok (.iadd, 1) := by decide +kernel
theorem dX12_newRow_77 : decode cX12_newRow 77 = .ok (.putfield 153, 3) := by decide +kernel
theorem dX12_newRow_80 : decode cX12_newRow 80 = .ok (.aload_n 0, 1) := by decide +kernel
theorem dX12_newRow_81 : decode cX12_newRow 81 = .ok (.getfield 153, 3) := by decide +kernel
theorem dX12_newRow_84 : decode cX12_newRow 84 = .ok (.iconst 1, 1) := by decide +kernel
theorem dX12_newRow_85 : decode cX12_newRow 85 = .ok (.isub, 1) := by decide +kernel
theorem dX12_newRow_86 : decode cX12_newRow 86 = .ok (.ireturn, 1) := by decide +kernel
def L_X12_newRow_32 (d : Nat) (v0 : Option Nm) (v1 : Int32) (v2 : Int32) (v3 : Int32) (h : MH) (u : Nat) (Q : Int32 → MH → Prop) : Prop := T u_X12_newRow d 32 [some (jR v0), some (jI v1), some (jI v2), some (jI v3)] [] h u (qI Q)
def F_X12_newRow (d : Nat) (v0 : Option Nm) (v1 : Int32) (v2 : Int32) (h : MH) (u : Nat) (Q : Int32 → MH → Prop) : Prop :=
  gR h v0 11 4 fun x1 =>
  gI h v0 11 3 fun x2 =>
  sV .int h x1 x2 (jI v1) fun h =>
  gR h v0 11 5 fun x3 =>
  gI h v0 11 3 fun x4 =>
  sV .int h x3 x4 (jI v2) fun h =>
  gR h v0 11 6 fun x5 =>
  gI h v0 11 3 fun x6 =>
  sV .boolean h x5 x6 (jI (vp_nar .boolean 0)) fun h =>
  L_X12_newRow_32 d v0 v1 v2 0 h u Q
set_option maxRecDepth 20000 in
theorem E_X12_newRow {d : Nat} {v0 : Option Nm} {v1 : Int32} {v2 : Int32} {h : MH} {u : Nat} {Q : Int32 → MH → Prop} (H : F_X12_newRow d v0 v1 v2 h u Q) : T u_X12_newRow d 0 [some (jR v0), some (jI v1), some (jI v2), none] [] h u (qI Q) := by
  unfold F_X12_newRow at H
  refine T_aload_n (pc := 0) dX12_newRow_0 rfl rfl ?_
  refine T_gR (pc := 1) fa_X12_7 dX12_newRow_1 (gR_mono (fun x1 H => ?_) H)
  refine T_aload_n (pc := 4) dX12_newRow_4 rfl rfl ?_
  refine T_gI (pc := 5) fa_X12_153 dX12_newRow_5 (gI_mono (fun x2 H => ?_) H)
  refine T_iload_n (pc := 8) dX12_newRow_8 rfl rfl ?_
  refine T_sI (pc := 9) dX12_newRow_9 (sV_mono (fun h H => ?_) H)
  refine T_aload_n (pc := 10) dX12_newRow_10 rfl rfl ?_
  refine T_gR (pc := 11) fa_X12_13 dX12_newRow_11 (gR_mono (fun x3 H => ?_) H)
  refine T_aload_n (pc := 14) dX12_newRow_14 rfl rfl ?_
  refine T_gI (pc := 15) fa_X12_153 dX12_newRow_15 (gI_mono (fun x4 H => ?_) H)
  refine T_iload_n (pc := 18) dX12_newRow_18 rfl rfl ?_
  refine T_sI (pc := 19) dX12_newRow_19 (sV_mono (fun h H => ?_) H)
  refine T_aload_n (pc := 20) dX12_newRow_20 rfl rfl ?_
  refine T_gR (pc := 21) fa_X12_16 dX12_newRow_21 (gR_mono (fun x5 H => ?_) H)
  refine T_aload_n (pc := 24) dX12_newRow_24 rfl rfl ?_
  refine T_gI (pc := 25) fa_X12_153 dX12_newRow_25 (gI_mono (fun x6 H => ?_) H)
  refine T_iconst (pc := 28) (v := 0) dX12_newRow_28 (by decide) ?_
  refine T_sZ (pc := 29) dX12_newRow_29 (sV_mono (fun h H => ?_) H)
  refine T_iconst (pc := 30) (v := 0) dX12_newRow_30 (by decide) ?_
  refine T_istore_n (pc := 31) (ls2 := [some (jR v0), some (jI v1), some (jI v2), some (jI 0)]) dX12_newRow_31 rfl (Nat.le_of_ble_eq_true rfl) rfl ?_
  exact T.forget H ⟨rfl, rfl, rfl, rfl, trivial⟩
def F_X12_newRow_32 (d : Nat) (v0 : Option Nm) (v1 : Int32) (v2 : Int32) (v3 : Int32) (h : MH) (u : Nat) (Q : Int32 → MH → Prop) : Prop :=
  if v2 ≤ v3 then
    gI h v0 11 3 fun x1 =>
    pV h v0 11 3 (jI (x1 + 1)) fun h =>
    gI h v0 11 3 fun x2 =>
    Q (x2 - 1) h
  else
    gR h v0 11 7 fun x3 =>
    gI h v0 11 3 fun x4 =>
    if v1 = 8 then
      sV .long h x3 ((20 * x4) + v3) (jL (-1)) fun h =>
      L_X12_newRow_32 d v0 v1 v2 (v3 + 1) h u Q
    else
      sV .long h x3 ((20 * x4) + v3) (jL 0) fun h =>
      L_X12_newRow_32 d v0 v1 v2 (v3 + 1) h u Q
set_option maxRecDepth 20000 in
theorem E_X12_newRow_32 {d : Nat} {v0 : Option Nm} {v1 : Int32} {v2 : Int32} {v3 : Int32} {h : MH} {u : Nat} {Q : Int32 → MH → Prop} (H : F_X12_newRow_32 d v0 v1 v2 v3 h u Q) : T u_X12_newRow d 32 [some (jR v0), some (jI v1), some (jI v2), some (jI v3)] [] h u (qI Q) := by
  unfold F_X12_newRow_32 at H
  refine T_iload_n (pc := 32) dX12_newRow_32 rfl rfl ?_
  refine T_iload_n (pc := 33) dX12_newRow_33 rfl rfl ?_
  refine T_icmp_ge (pc := 34) (tgt := 70) dX12_newRow_34 (by decide) (fun hc => ?_) (fun hc => ?_)
  · rw [if_pos hc] at H
    refine T_aload_n (pc := 70) dX12_newRow_70 rfl rfl ?_
    refine T_dup (pc := 71) rfl dX12_newRow_71 ?_
    refine T_gI (pc := 72) fa_X12_153 dX12_newRow_72 (gI_mono (fun x1 H => ?_) H)
    refine T_iconst (pc := 75) (v := 1) dX12_newRow_75 (by decide) ?_
    refine T_iadd (pc := 76) dX12_newRow_76 ?_
    refine T_pV (pc := 77) fa_X12_153 dX12_newRow_77 trivial (pV_mono (fun h H => ?_) H)
    refine T_aload_n (pc := 80) dX12_newRow_80 rfl rfl ?_
    refine T_gI (pc := 81) fa_X12_153 dX12_newRow_81 (gI_mono (fun x2 H => ?_) H)
    refine T_iconst (pc := 84) (v := 1) dX12_newRow_84 (by decide) ?_
    refine T_isub (pc := 85) dX12_newRow_85 ?_
    exact T_ireturn (pc := 86) rfl rfl dX12_newRow_86 H
  · rw [if_neg hc] at H
    refine T_aload_n (pc := 37) dX12_newRow_37 rfl rfl ?_
    refine T_gR (pc := 38) fa_X12_20 dX12_newRow_38 (gR_mono (fun x3 H => ?_) H)
    refine T_bipush (pc := 41) (v := 20) dX12_newRow_41 (by decide) ?_
    refine T_aload_n (pc := 43) dX12_newRow_43 rfl rfl ?_
    refine T_gI (pc := 44) fa_X12_153 dX12_newRow_44 (gI_mono (fun x4 H => ?_) H)
    refine T_imul (pc := 47) dX12_newRow_47 ?_
    refine T_iload_n (pc := 48) dX12_newRow_48 rfl rfl ?_
    refine T_iadd (pc := 49) dX12_newRow_49 ?_
    refine T_iload_n (pc := 50) dX12_newRow_50 rfl rfl ?_
    refine T_bipush (pc := 51) (v := 8) dX12_newRow_51 (by decide) ?_
    refine T_icmp_ne (pc := 53) (tgt := 62) dX12_newRow_53 (by decide) (fun hc => ?_) (fun hc => ?_)
    · rw [if_neg hc] at H
      refine T_lconst (pc := 62) (v := 0) dX12_newRow_62 (by decide) ?_
      refine T_sL (pc := 63) dX12_newRow_63 (sV_mono (fun h H => ?_) H)
      refine T_iinc (pc := 64) (v := v3 + 1) (ls2 := [some (jR v0), some (jI v1), some (jI v2), some (jI (v3 + 1))]) dX12_newRow_64 rfl rfl (Nat.le_of_ble_eq_true rfl) rfl ?_
      refine T_goto (pc := 67) (tgt := 32) dX12_newRow_67 (by decide) ?_
      exact T.forget H ⟨rfl, rfl, rfl, rfl, trivial⟩
    · rw [if_pos hc] at H
      refine T_ldc2 (pc := 56) (v := (-1)) dX12_newRow_56 c_5_97 ?_
      refine T_goto (pc := 59) (tgt := 63) dX12_newRow_59 (by decide) ?_
      refine T_sL (pc := 63) dX12_newRow_63 (sV_mono (fun h H => ?_) H)
      refine T_iinc (pc := 64) (v := v3 + 1) (ls2 := [some (jR v0), some (jI v1), some (jI v2), some (jI (v3 + 1))]) dX12_newRow_64 rfl rfl (Nat.le_of_ble_eq_true rfl) rfl ?_
      refine T_goto (pc := 67) (tgt := 32) dX12_newRow_67 (by decide) ?_
      exact T.forget H ⟨rfl, rfl, rfl, rfl, trivial⟩
theorem I_X12_newRow {d : Nat} {v0 : Option Nm} {v1 : Int32} {v2 : Int32} {h : MH} {u : Nat} {K : Int32 → MH → Nat → Prop} (u1 : Nat) (hu : u1 ≤ u) (H : F_X12_newRow d v0 v1 v2 h u1 (fun x h2 => K x h2 (u - u1))) : iI d u_X12_newRow [jR v0, jI v1, jI v2] h u K := inv.of u1 hu (Ct.of (by decide +kernel) rfl (Nat.le_of_ble_eq_true rfl) rfl (E_X12_newRow H))
theorem dX12_twinOf_0 : decode cX12_twinOf 0 = .ok (.aload_n 0, 1) := by decide +kernel
theorem dX12_twinOf_1 : decode cX12_twinOf 1 = .ok (.aload_n 0, 1) := by decide +kernel
theorem dX12_twinOf_2 : decode cX12_twinOf 2 = .ok (.getfield 7, 3) := by decide +kernel
theorem dX12_twinOf_5 : decode cX12_twinOf 5 = .ok (.iload_n 1, 1) := by decide +kernel
theorem dX12_twinOf_6 : decode cX12_twinOf 6 = .ok (.iaload, 1) := by decide +kernel
theorem dX12_twinOf_7 : decode cX12_twinOf 7 = .ok (.aload_n 0, 1) := by decide +kernel
theorem dX12_twinOf_8 : decode cX12_twinOf 8 = .ok (.getfield 13, 3) := by decide +kernel
theorem dX12_twinOf_11 : decode cX12_twinOf 11 = .ok (.iload_n 1, 1) := by decide +kernel
theorem dX12_twinOf_12 : decode cX12_twinOf 12 = .ok (.iaload, 1) := by decide +kernel
theorem dX12_twinOf_13 : decode cX12_twinOf 13 = .ok (.invokevirtual 162, 3) := by decide +kernel
theorem dX12_twinOf_16 : decode cX12_twinOf 16 = .ok (.istore_n 2, 1) := by decide +kernel
theorem dX12_twinOf_17 : decode cX12_twinOf 17 = .ok (.iconst 0, 1) := by decide +kernel
theorem dX12_twinOf_18 : decode cX12_twinOf 18 = .ok (.istore_n 3, 1) := by decide +kernel
theorem dX12_twinOf_19 : decode cX12_twinOf 19 = .ok (.iload_n 3, 1) := by decide +kernel
theorem dX12_twinOf_20 : decode cX12_twinOf 20 = .ok (.aload_n 0, 1) := by decide +kernel
theorem dX12_twinOf_21 : decode cX12_twinOf 21 = .ok (.getfield 13, 3) := by decide +kernel
theorem dX12_twinOf_24 : decode cX12_twinOf 24 = .ok (.iload_n 1, 1) := by decide +kernel
theorem dX12_twinOf_25 : decode cX12_twinOf 25 = .ok (.iaload, 1) := by decide +kernel
theorem dX12_twinOf_26 : decode cX12_twinOf 26 = .ok (.if_icmp .ge 31, 3) := by decide +kernel
theorem dX12_twinOf_29 : decode cX12_twinOf 29 = .ok (.aload_n 0, 1) := by decide +kernel
theorem dX12_twinOf_30 : decode cX12_twinOf 30 = .ok (.getfield 20, 3) := by decide +kernel
theorem dX12_twinOf_33 : decode cX12_twinOf 33 = .ok (.bipush 20, 2) := by decide +kernel
theorem dX12_twinOf_35 : decode cX12_twinOf 35 = .ok (.iload_n 2, 1) := by decide +kernel
theorem dX12_twinOf_36 : decode cX12_twinOf 36 = .ok (.imul, 1) := by decide +kernel
theorem dX12_twinOf_37 : decode cX12_twinOf 37 = .ok (.iload_n 3, 1) := by decide +kernel
theorem dX12_twinOf_38 : decode cX12_twinOf 38 = .ok (.iadd, 1) := by decide +kernel
theorem dX12_twinOf_39 : decode cX12_twinOf 39 = .ok (.aload_n 0, 1) := by decide +kernel
theorem dX12_twinOf_40 : decode cX12_twinOf 40 = .ok (.getfield 20, 3) := by decide +kernel
theorem dX12_twinOf_43 : decode cX12_twinOf 43 = .ok (.bipush 20, 2) := by decide +kernel
theorem dX12_twinOf_45 : decode cX12_twinOf 45 = .ok (.iload_n 1, 1) := by decide +kernel
theorem dX12_twinOf_46 : decode cX12_twinOf 46 = .ok (.imul, 1) := by decide +kernel
theorem dX12_twinOf_47 : decode cX12_twinOf 47 = .ok (.iload_n 3, 1) := by decide +kernel
theorem dX12_twinOf_48 : decode cX12_twinOf 48 = .ok (.iadd, 1) := by decide +kernel
theorem dX12_twinOf_49 : decode cX12_twinOf 49 = .ok (.laload, 1) := by decide +kernel
theorem dX12_twinOf_50 : decode cX12_twinOf 50 = .ok (.lastore, 1) := by decide +kernel
theorem dX12_twinOf_51 : decode cX12_twinOf 51 = .ok (.iinc 3 1, 3) := by decide +kernel
theorem dX12_twinOf_54 : decode cX12_twinOf 54 = .ok (.goto (-35), 3) := by decide +kernel
theorem dX12_twinOf_57 : decode cX12_twinOf 57 = .ok (.iload_n 2, 1) := by decide +kernel
theorem dX12_twinOf_58 : decode cX12_twinOf 58 = .ok (.ireturn, 1) := by decide +kernel
def L_X12_twinOf_19 (d : Nat) (v0 : Option Nm) (v1 : Int32) (v2 : Int32) (v3 : Int32) (h : MH) (u : Nat) (Q : Int32 → MH → Prop) : Prop := T u_X12_twinOf (d + 1) 19 [some (jR v0), some (jI v1), some (jI v2), some (jI v3)] [] h u (qI Q)
def F_X12_twinOf (d : Nat) (v0 : Option Nm) (v1 : Int32) (h : MH) (u : Nat) (Q : Int32 → MH → Prop) : Prop :=
  gR h v0 11 4 fun x1 =>
  aI .int h x1 v1 fun x2 =>
  gR h v0 11 5 fun x3 =>
  aI .int h x3 v1 fun x4 =>
  rc h v0 11 ∧ iI d u_X12_newRow [jR v0, jI x2, jI x4] h u fun x5 h u =>
  L_X12_twinOf_19 d v0 v1 x5 0 h u Q
set_option maxRecDepth 20000 in
theorem E_X12_twinOf {d : Nat} {v0 : Option Nm} {v1 : Int32} {h : MH} {u : Nat} {Q : Int32 → MH → Prop} (H : F_X12_twinOf d v0 v1 h u Q) : T u_X12_twinOf (d + 1) 0 [some (jR v0), some (jI v1), none, none] [] h u (qI Q) := by
  unfold F_X12_twinOf at H
  refine T_aload_n (pc := 0) dX12_twinOf_0 rfl rfl ?_
  refine T_aload_n (pc := 1) dX12_twinOf_1 rfl rfl ?_
  refine T_gR (pc := 2) fa_X12_7 dX12_twinOf_2 (gR_mono (fun x1 H => ?_) H)
  refine T_iload_n (pc := 5) dX12_twinOf_5 rfl rfl ?_
  refine T_aI (pc := 6) dX12_twinOf_6 (aI_mono (fun x2 H => ?_) H)
  refine T_aload_n (pc := 7) dX12_twinOf_7 rfl rfl ?_
  refine T_gR (pc := 8) fa_X12_13 dX12_twinOf_8 (gR_mono (fun x3 H => ?_) H)
  refine T_iload_n (pc := 11) dX12_twinOf_11 rfl rfl ?_
  refine T_aI (pc := 12) dX12_twinOf_12 (aI_mono (fun x4 H => ?_) H)
  obtain ⟨H0, H⟩ := H
  refine T_iV (pc := 13) (ci := 11) (av := [jI x2, jI x4]) (rest := []) (o := v0) dX12_twinOf_13 mf_X12_newRow c_5_93 c_5_95 pr_X12_newRow rfl rfl (Nat.le_of_ble_eq_true rfl) rfl H0 (iI_k (iI_mono (fun x5 h u H => ?_) H))
  refine T_istore_n (pc := 16) (ls2 := [some (jR v0), some (jI v1), some (jI x5), none]) dX12_twinOf_16 rfl (Nat.le_of_ble_eq_true rfl) rfl ?_
  refine T_iconst (pc := 17) (v := 0) dX12_twinOf_17 (by decide) ?_
  refine T_istore_n (pc := 18) (ls2 := [some (jR v0), some (jI v1), some (jI x5), some (jI 0)]) dX12_twinOf_18 rfl (Nat.le_of_ble_eq_true rfl) rfl ?_
  exact T.forget H ⟨rfl, rfl, rfl, rfl, trivial⟩
def F_X12_twinOf_19 (d : Nat) (v0 : Option Nm) (v1 : Int32) (v2 : Int32) (v3 : Int32) (h : MH) (u : Nat) (Q : Int32 → MH → Prop) : Prop :=
  gR h v0 11 5 fun x1 =>
  aI .int h x1 v1 fun x2 =>
  if x2 ≤ v3 then
    Q v2 h
  else
    gR h v0 11 7 fun x3 =>
    gR h v0 11 7 fun x4 =>
    aL h x4 ((20 * v1) + v3) fun x5 =>
    sV .long h x3 ((20 * v2) + v3) (jL x5) fun h =>
    L_X12_twinOf_19 d v0 v1 v2 (v3 + 1) h u Q
set_option maxRecDepth 20000 in
theorem E_X12_twinOf_19 {d : Nat} {v0 : Option Nm} {v1 : Int32} {v2 : Int32} {v3 : Int32} {h : MH} {u : Nat} {Q : Int32 → MH → Prop} (H : F_X12_twinOf_19 d v0 v1 v2 v3 h u Q) : T u_X12_twinOf (d + 1) 19 [some (jR v0), some (jI v1), some (jI v2), some (jI v3)] [] h u (qI Q) := by
  unfold F_X12_twinOf_19 at H
  refine T_iload_n (pc := 19) dX12_twinOf_19 rfl rfl ?_
  refine T_aload_n (pc := 20) dX12_twinOf_20 rfl rfl ?_
  refine T_gR (pc := 21) fa_X12_13 dX12_twinOf_21 (gR_mono (fun x1 H => ?_) H)
  refine T_iload_n (pc := 24) dX12_twinOf_24 rfl rfl ?_
  refine T_aI (pc := 25) dX12_twinOf_25 (aI_mono (fun x2 H => ?_) H)
  refine T_icmp_ge (pc := 26) (tgt := 57) dX12_twinOf_26 (by decide) (fun hc => ?_) (fun hc => ?_)
  · rw [if_pos hc] at H
    refine T_iload_n (pc := 57) dX12_twinOf_57 rfl rfl ?_
    exact T_ireturn (pc := 58) rfl rfl dX12_twinOf_58 H
  · rw [if_neg hc] at H
    refine T_aload_n (pc := 29) dX12_twinOf_29 rfl rfl ?_
    refine T_gR (pc := 30) fa_X12_20 dX12_twinOf_30 (gR_mono (fun x3 H => ?_) H)
    refine T_bipush (pc := 33) (v := 20) dX12_twinOf_33 (by decide) ?_
    refine T_iload_n (pc := 35) dX12_twinOf_35 rfl rfl ?_
    refine T_imul (pc := 36) dX12_twinOf_36 ?_
    refine T_iload_n (pc := 37) dX12_twinOf_37 rfl rfl ?_
    refine T_iadd (pc := 38) dX12_twinOf_38 ?_
    refine T_aload_n (pc := 39) dX12_twinOf_39 rfl rfl ?_
    refine T_gR (pc := 40) fa_X12_20 dX12_twinOf_40 (gR_mono (fun x4 H => ?_) H)
    refine T_bipush (pc := 43) (v := 20) dX12_twinOf_43 (by decide) ?_
    refine T_iload_n (pc := 45) dX12_twinOf_45 rfl rfl ?_
    refine T_imul (pc := 46) dX12_twinOf_46 ?_
    refine T_iload_n (pc := 47) dX12_twinOf_47 rfl rfl ?_
    refine T_iadd (pc := 48) dX12_twinOf_48 ?_
    refine T_aL (pc := 49) dX12_twinOf_49 (aL_mono (fun x5 H => ?_) H)
    refine T_sL (pc := 50) dX12_twinOf_50 (sV_mono (fun h H => ?_) H)
    refine T_iinc (pc := 51) (v := v3 + 1) (ls2 := [some (jR v0), some (jI v1), some (jI v2), some (jI (v3 + 1))]) dX12_twinOf_51 rfl rfl (Nat.le_of_ble_eq_true rfl) rfl ?_
    refine T_goto (pc := 54) (tgt := 19) dX12_twinOf_54 (by decide) ?_
    exact T.forget H ⟨rfl, rfl, rfl, rfl, trivial⟩
theorem I_X12_twinOf {d : Nat} {v0 : Option Nm} {v1 : Int32} {h : MH} {u : Nat} {K : Int32 → MH → Nat → Prop} (u1 : Nat) (hu : u1 ≤ u) (H : F_X12_twinOf d v0 v1 h u1 (fun x h2 => K x h2 (u - u1))) : iI (d + 1) u_X12_twinOf [jR v0, jI v1] h u K := inv.of u1 hu (Ct.of (by decide +kernel) rfl (Nat.le_of_ble_eq_true rfl) rfl (E_X12_twinOf H))
theorem dX12_row_0 : decode cX12_row 0 = .ok (.iload_n 1, 1) := by decide +kernel
theorem dX12_row_1 : decode cX12_row 1 = .ok (.iconst 0, 1) := by decide +kernel
theorem dX12_row_2 : decode cX12_row 2 = .ok (.bipush 8, 2) := by decide +kernel
theorem dX12_row_4 : decode cX12_row 4 = .ok (.invokestatic 156, 3) := by decide +kernel
theorem dX12_row_7 : decode cX12_row 7 = .ok (.ifCond .eq 9, 3) := by decide +kernel
theorem dX12_row_10 : decode cX12_row 10 = .ok (.iload_n 2, 1) := by decide +kernel
theorem dX12_row_11 : decode cX12_row 11 = .ok (.bipush 20, 2) := by decide +kernel
theorem dX12_row_13 : decode cX12_row 13 = .ok (.if_icmp .le 6, 3) := by decide +kernel
theorem dX12_row_16 : decode cX12_row 16 = .ok (.bipush (-2), 2) := by decide +kernel
theorem dX12_row_18 : decode cX12_row 18 = .ok (.ireturn, 1) := by decide +kernel
theorem dX12_row_19 : decode cX12_row 19 = .ok (.aload_n 0, 1) := by decide +kernel
theorem dX12_row_20 : decode cX12_row 20 = .ok (.getfield 153, 3) := by decide +kernel
theorem dX12_row_23 : decode cX12_row 23 = .ok (.bipush 60, 2) := by decide +kernel
theorem dX12_row_25 : decode cX12_row 25 = .ok (.if_icmp .ne 6, 3) := by decide +kernel
theorem dX12_row_28 : decode cX12_row 28 = .ok (.bipush (-4), 2) := by decide +kernel
theorem dX12_row_30 : decode cX12_row 30 = .ok (.ireturn, 1) := by decide +kernel
theorem dX12_row_31 : decode cX12_row 31 = .ok (.iload_n 2, 1) := by decide +kernel
theorem dX12_row_32 : decode cX12_row 32 = .ok (.ifCond .ge 11, 3) := by decide +kernel
theorem dX12_row_35 : decode cX12_row 35 = .ok (.aload_n 0, 1) := by decide +kernel
theorem dX12_row_36 : decode cX12_row 36 = .ok (.iconst 4, 1) := by decide +kernel
theorem dX12_row_37 : decode cX12_row 37 = .ok (.invokevirtual 166, 3) := by decide +kernel
theorem dX12_row_40 : decode cX12_row 40 = .ok (.goto 9, 3) := by decide +kernel
theorem dX12_row_43 : decode cX12_row 43 = .ok (.aload_n 0, 1) := by decide +kernel
theorem dX12_row_44 : decode cX12_row 44 = .ok (.iload_n 1, 1) := by decide +kernel
theorem dX12_row_45 : decode cX12_row 45 = .ok (.iload_n 2, 1) := by decide +kernel
theorem dX12_row_46 : decode cX12_row 46 = .ok (.invokevirtual 162, 3) := by decide +kernel
theorem dX12_row_49 : decode cX12_row 49 = .ok (.ireturn, 1) := by decide +kernel
def F_X12_row (d : Nat) (v0 : Option Nm) (v1 : Int32) (v2 : Int32) (h : MH) (u : Nat) (Q : Int32 → MH → Prop) : Prop :=
  iI d u_X12_in [jI v1, jI 0, jI 8] h u fun x1 h u =>
  if x1 = 0 then
    Q (-2) h
  else
    if v2 ≤ 20 then
      gI h v0 11 3 fun x2 =>
      if x2 = 60 then
        Q (-4) h
      else
        if 0 ≤ v2 then
          rc h v0 11 ∧ iI d u_X12_newRow [jR v0, jI v1, jI v2] h u fun x3 h u =>
          Q x3 h
        else
          rc h v0 11 ∧ iI d u_X12_fails [jR v0, jI 4] h u fun x4 h u =>
          Q x4 h
    else
      Q (-2) h
set_option maxRecDepth 20000 in
theorem E_X12_row {d : Nat} {v0 : Option Nm} {v1 : Int32} {v2 : Int32} {h : MH} {u : Nat} {Q : Int32 → MH → Prop} (H : F_X12_row d v0 v1 v2 h u Q) : T u_X12_row (d + 1) 0 [some (jR v0), some (jI v1), some (jI v2)] [] h u (qI Q) := by
  unfold F_X12_row at H
  refine T_iload_n (pc := 0) dX12_row_0 rfl rfl ?_
  refine T_iconst (pc := 1) (v := 0) dX12_row_1 (by decide) ?_
  refine T_bipush (pc := 2) (v := 8) dX12_row_2 (by decide) ?_
  refine T_invS (pc := 4) (av := [jI v1, jI 0, jI 8]) (rest := []) dX12_row_4 mf_X12_in c_5_86 c_5_87 rfl (Nat.le_of_ble_eq_true rfl) rfl (iI_k (iI_mono (fun x1 h u H => ?_) H))
  refine T_if_eq (pc := 7) (tgt := 16) dX12_row_7 (by decide) (fun hc => ?_) (fun hc => ?_)
  · rw [if_pos hc] at H
    refine T_bipush (pc := 16) (v := (-2)) dX12_row_16 (by decide) ?_
    exact T_ireturn (pc := 18) rfl rfl dX12_row_18 H
  · rw [if_neg hc] at H
    refine T_iload_n (pc := 10) dX12_row_10 rfl rfl ?_
    refine T_bipush (pc := 11) (v := 20) dX12_row_11 (by decide) ?_
    refine T_icmp_le (pc := 13) (tgt := 19) dX12_row_13 (by decide) (fun hc => ?_) (fun hc => ?_)
    · rw [if_pos hc] at H
      refine T_aload_n (pc := 19) dX12_row_19 rfl rfl ?_
      refine T_gI (pc := 20) fa_X12_153 dX12_row_20 (gI_mono (fun x2 H => ?_) H)
      refine T_bipush (pc := 23) (v := 60) dX12_row_23 (by decide) ?_
      refine T_icmp_ne (pc := 25) (tgt := 31) dX12_row_25 (by decide) (fun hc => ?_) (fun hc => ?_)
      · rw [if_neg hc] at H
        refine T_iload_n (pc := 31) dX12_row_31 rfl rfl ?_
        refine T_if_ge (pc := 32) (tgt := 43) dX12_row_32 (by decide) (fun hc => ?_) (fun hc => ?_)
        · rw [if_pos hc] at H
          refine T_aload_n (pc := 43) dX12_row_43 rfl rfl ?_
          refine T_iload_n (pc := 44) dX12_row_44 rfl rfl ?_
          refine T_iload_n (pc := 45) dX12_row_45 rfl rfl ?_
          obtain ⟨H0, H⟩ := H
          refine T_iV (pc := 46) (ci := 11) (av := [jI v1, jI v2]) (rest := []) (o := v0) dX12_row_46 mf_X12_newRow c_5_93 c_5_95 pr_X12_newRow rfl rfl (Nat.le_of_ble_eq_true rfl) rfl H0 (iI_k (iI_mono (fun x3 h u H => ?_) H))
          exact T_ireturn (pc := 49) rfl rfl dX12_row_49 H
        · rw [if_neg hc] at H
          refine T_aload_n (pc := 35) dX12_row_35 rfl rfl ?_
          refine T_iconst (pc := 36) (v := 4) dX12_row_36 (by decide) ?_
          obtain ⟨H0, H⟩ := H
          refine T_iV (pc := 37) (ci := 11) (av := [jI 4]) (rest := []) (o := v0) dX12_row_37 mf_X12_fails c_5_89 c_5_91 pr_X12_fails rfl rfl (Nat.le_of_ble_eq_true rfl) rfl H0 (iI_k (iI_mono (fun x4 h u H => ?_) H))
          refine T_goto (pc := 40) (tgt := 49) dX12_row_40 (by decide) ?_
          exact T_ireturn (pc := 49) rfl rfl dX12_row_49 H
      · rw [if_pos hc] at H
        refine T_bipush (pc := 28) (v := (-4)) dX12_row_28 (by decide) ?_
        exact T_ireturn (pc := 30) rfl rfl dX12_row_30 H
    · rw [if_neg hc] at H
      refine T_bipush (pc := 16) (v := (-2)) dX12_row_16 (by decide) ?_
      exact T_ireturn (pc := 18) rfl rfl dX12_row_18 H
theorem I_X12_row {d : Nat} {v0 : Option Nm} {v1 : Int32} {v2 : Int32} {h : MH} {u : Nat} {K : Int32 → MH → Nat → Prop} (u1 : Nat) (hu : u1 ≤ u) (H : F_X12_row d v0 v1 v2 h u1 (fun x h2 => K x h2 (u - u1))) : iI (d + 1) u_X12_row [jR v0, jI v1, jI v2] h u K := inv.of u1 hu (Ct.of (by decide +kernel) rfl (Nat.le_of_ble_eq_true rfl) rfl (E_X12_row H))
theorem dX12_put_0 : decode cX12_put 0 = .ok (.aload_n 0, 1) := by decide +kernel
theorem dX12_put_1 : decode cX12_put 1 = .ok (.iload_n 1, 1) := by decide +kernel
theorem dX12_put_2 : decode cX12_put 2 = .ok (.invokevirtual 170, 3) := by decide +kernel
theorem dX12_put_5 : decode cX12_put 5 = .ok (.ifCond .ne 5, 3) := by decide +kernel
theorem dX12_put_8 : decode cX12_put 8 = .ok (.iconst (-1), 1) := by decide +kernel
theorem dX12_put_9 : decode cX12_put 9 = .ok (.ireturn, 1) := by decide +kernel
theorem dX12_put_10 : decode cX12_put 10 = .ok (.iload_n 3, 1) := by decide +kernel
theorem dX12_put_11 : decode cX12_put 11 = .ok (.iconst 0, 1) := by decide +kernel
theorem dX12_put_12 : decode cX12_put 12 = .ok (.bipush 7, 2) := by decide +kernel
theorem dX12_put_14 : decode cX12_put 14 = .ok (.invokestatic 156, 3) := by decide +kernel
theorem dX12_put_17 : decode cX12_put 17 = .ok (.ifCond .ne 6, 3) := by decide +kernel
theorem dX12_put_20 : decode cX12_put 20 = .ok (.bipush (-2), 2) := by decide +kernel
theorem dX12_put_22 : decode cX12_put 22 = .ok (.ireturn, 1) := by decide +kernel
theorem dX12_put_23 : decode cX12_put 23 = .ok (.aload_n 0, 1) := by decide +kernel
theorem dX12_put_24 : decode cX12_put 24 = .ok (.getfield 7, 3) := by decide +kernel
theorem dX12_put_27 : decode cX12_put 27 = .ok (.iload_n 1, 1) := by decide +kernel
theorem dX12_put_28 : decode cX12_put 28 = .ok (.iaload, 1) := by decide +kernel
theorem dX12_put_29 : decode cX12_put 29 = .ok (.bipush 8, 2) := by decide +kernel
theorem dX12_put_31 : decode cX12_put 31 = .ok (.if_icmp .ne 9, 3) := by decide +kernel
theorem dX12_put_34 : decode cX12_put 34 = .ok (.aload_n 0, 1) := by decide +kernel
theorem dX12_put_35 : decode cX12_put 35 = .ok (.iconst 3, 1) := by decide +kernel
theorem dX12_put_36 : decode cX12_put 36 = .ok (.invokevirtual 166, 3) := by decide +kernel
theorem dX12_put_39 : decode cX12_put 39 = .ok (.ireturn, 1) := by decide +kernel
theorem dX12_put_40 : decode cX12_put 40 = .ok (.iload_n 2, 1) := by decide +kernel
theorem dX12_put_41 : decode cX12_put 41 = .ok (.iconst 0, 1) := by decide +kernel
theorem dX12_put_42 : decode cX12_put 42 = .ok (.aload_n 0, 1) := by decide +kernel
theorem dX12_put_43 : decode cX12_put 43 = .ok (.getfield 13, 3) := by decide +kernel
theorem dX12_put_46 : decode cX12_put 46 = .ok (.iload_n 1, 1) := by decide +kernel
theorem dX12_put_47 : decode cX12_put 47 = .ok (.iaload, 1) := by decide +kernel
theorem dX12_put_48 : decode cX12_put 48 = .ok (.iconst 1, 1) := by decide +kernel
theorem dX12_put_49 : decode cX12_put 49 = .ok (.isub, 1) := by decide +kernel
theorem dX12_put_50 : decode cX12_put 50 = .ok (.invokestatic 156, 3) := by decide +kernel
theorem dX12_put_53 : decode cX12_put 53 = .ok (.ifCond .ne 9, 3) := by decide +kernel
theorem dX12_put_56 : decode cX12_put 56 = .ok (.aload_n 0, 1) := by decide +kernel
theorem dX12_put_57 : decode cX12_put 57 = .ok (.iconst 2, 1) := by decide +kernel
theorem dX12_put_58 : decode cX12_put 58 = .ok (.invokevirtual 166, 3) := by decide +kernel
theorem dX12_put_61 : decode cX12_put 61 = .ok (.ireturn, 1) := by decide +kernel
theorem dX12_put_62 : decode cX12_put 62 = .ok (.iload_n 3, 1) := by decide +kernel
theorem dX12_put_63 : decode cX12_put 63 = .ok (.aload_n 0, 1) := by decide +kernel
theorem dX12_put_64 : decode cX12_put 64 = .ok (.getfield 7, 3) := by decide +kernel
theorem dX12_put_67 : decode cX12_put 67 = .ok (.iload_n 1, 1) := by decide +kernel
theorem dX12_put_68 : decode cX12_put 68 = .ok (.iaload, 1) := by decide +kernel
theorem dX12_put_69 : decode cX12_put 69 = .ok (.invokestatic 174, 3) := by decide +kernel
theorem dX12_put_72 : decode cX12_put 72 = .ok (.ifCond .ne 9, 3) := by decide +kernel
theorem dX12_put_75 : decode cX12_put 75 = .ok (.aload_n 0, 1) := by decide +kernel
theorem dX12_put_76 : decode cX12_put 76 = .ok (.iconst 3, 1) := by decide +kernel
theorem dX12_put_77 : decode cX12_put 77 = .ok (.invokevirtual 166, 3) := by decide +kernel
theorem dX12_put_80 : decode cX12_put 80 = .ok (.ireturn, 1) := by decide +kernel
theorem dX12_put_81 : decode cX12_put 81 = .ok (.aload_n 0, 1) := by decide +kernel
theorem dX12_put_82 : decode cX12_put 82 = .ok (.getfield 20, 3) := by decide +kernel
theorem dX12_put_85 : decode cX12_put 85 = .ok (.bipush 20, 2) := by decide +kernel
theorem dX12_put_87 : decode cX12_put 87 = .ok (.iload_n 1, 1) := by decide +kernel
theorem dX12_put_88 : decode cX12_put 88 = .ok (.imul, 1) := by decide +kernel
theorem dX12_put_89 : decode cX12_put 89 = .ok (.iload_n 2, 1) := by decide +kernel
theorem dX12_put_90 : decode cX12_put 90 = .ok (.iadd, 1) := by decide +kernel
theorem dX12_put_91 : decode cX12_put 91 = .ok (.iload_n 3, 1) := by decide +kernel
theorem dX12_put_92 : decode cX12_put 92 = .ok (.aload_n 0, 1) := by decide +kernel
theorem dX12_put_93 : decode cX12_put 93 = .ok (.getfield 7, 3) := by decide +kernel
theorem dX12_put_96 : decode cX12_put 96 = .ok (.iload_n 1, 1) := by decide +kernel
theorem dX12_put_97 : decode cX12_put 97 = .ok (.iaload, 1) := by decide +kernel
theorem dX12_put_98 : decode cX12_put 98 = .ok (.iload_n 3, 1) := by decide +kernel
theorem dX12_put_99 : decode cX12_put 99 = .ok (.lload 4, 2) := by decide +kernel
theorem dX12_put_101 : decode cX12_put 101 = .ok (.invokestatic 178, 3) := by decide +kernel
theorem dX12_put_104 : decode cX12_put 104 = .ok (.invokestatic 182, 3) := by decide +kernel
theorem dX12_put_107 : decode cX12_put 107 = .ok (.lastore, 1) := by decide +kernel
theorem dX12_put_108 : decode cX12_put 108 = .ok (.iconst 1, 1) := by decide +kernel
theorem dX12_put_109 : decode cX12_put 109 = .ok (.ireturn, 1) := by decide +kernel
def F_X12_put (d : Nat) (v0 : Option Nm) (v1 : Int32) (v2 : Int32) (v3 : Int32) (v4 : Int64) (h : MH) (u : Nat) (Q : Int32 → MH → Prop) : Prop :=
  rc h v0 11 ∧ iI d u_X12_isRow [jR v0, jI v1] h u fun x1 h u =>
  if x1 = 0 then
    Q (-1) h
  else
    iI d u_X12_in [jI v3, jI 0, jI 7] h u fun x2 h u =>
    if x2 = 0 then
      Q (-2) h
    else
      gR h v0 11 4 fun x3 =>
      aI .int h x3 v1 fun x4 =>
      if x4 = 8 then
        rc h v0 11 ∧ iI d u_X12_fails [jR v0, jI 3] h u fun x18 h u =>
        Q x18 h
      else
        gR h v0 11 5 fun x5 =>
        aI .int h x5 v1 fun x6 =>
        iI d u_X12_in [jI v2, jI 0, jI (x6 - 1)] h u fun x7 h u =>
        if x7 = 0 then
          rc h v0 11 ∧ iI d u_X12_fails [jR v0, jI 2] h u fun x17 h u =>
          Q x17 h
        else
          gR h v0 11 4 fun x8 =>
          aI .int h x8 v1 fun x9 =>
          iI d u_X12_isWidened [jI v3, jI x9] h u fun x10 h u =>
          if x10 = 0 then
            rc h v0 11 ∧ iI d u_X12_fails [jR v0, jI 3] h u fun x16 h u =>
            Q x16 h
          else
            gR h v0 11 7 fun x11 =>
            gR h v0 11 4 fun x12 =>
            aI .int h x12 v1 fun x13 =>
            iL d u_X12_comes [jI v3, jL v4] h u fun x14 h u =>
            iL d u_X12_widened [jI v3, jI x13, jL x14] h u fun x15 h u =>
            sV .long h x11 ((20 * v1) + v2) (jL x15) fun h =>
            Q 1 h
set_option maxRecDepth 20000 in
theorem E_X12_put {d : Nat} {v0 : Option Nm} {v1 : Int32} {v2 : Int32} {v3 : Int32} {v4 : Int64} {h : MH} {u : Nat} {Q : Int32 → MH → Prop} (H : F_X12_put d v0 v1 v2 v3 v4 h u Q) : T u_X12_put (d + 1) 0 [some (jR v0), some (jI v1), some (jI v2), some (jI v3), some (jL v4), none] [] h u (qI Q) := by
  unfold F_X12_put at H
  refine T_aload_n (pc := 0) dX12_put_0 rfl rfl ?_
  refine T_iload_n (pc := 1) dX12_put_1 rfl rfl ?_
  obtain ⟨H0, H⟩ := H
  refine T_iV (pc := 2) (ci := 11) (av := [jI v1]) (rest := []) (o := v0) dX12_put_2 mf_X12_isRow c_5_102 c_5_104 pr_X12_isRow rfl rfl (Nat.le_of_ble_eq_true rfl) rfl H0 (iI_k (iI_mono (fun x1 h u H => ?_) H))
  refine T_if_ne (pc := 5) (tgt := 10) dX12_put_5 (by decide) (fun hc => ?_) (fun hc => ?_)
  · rw [if_neg hc] at H
    refine T_iload_n (pc := 10) dX12_put_10 rfl rfl ?_
    refine T_iconst (pc := 11) (v := 0) dX12_put_11 (by decide) ?_
    refine T_bipush (pc := 12) (v := 7) dX12_put_12 (by decide) ?_
    refine T_invS (pc := 14) (av := [jI v3, jI 0, jI 7]) (rest := []) dX12_put_14 mf_X12_in c_5_86 c_5_87 rfl (Nat.le_of_ble_eq_true rfl) rfl (iI_k (iI_mono (fun x2 h u H => ?_) H))
    refine T_if_ne (pc := 17) (tgt := 23) dX12_put_17 (by decide) (fun hc => ?_) (fun hc => ?_)
    · rw [if_neg hc] at H
      refine T_aload_n (pc := 23) dX12_put_23 rfl rfl ?_
      refine T_gR (pc := 24) fa_X12_7 dX12_put_24 (gR_mono (fun x3 H => ?_) H)
      refine T_iload_n (pc := 27) dX12_put_27 rfl rfl ?_
      refine T_aI (pc := 28) dX12_put_28 (aI_mono (fun x4 H => ?_) H)
      refine T_bipush (pc := 29) (v := 8) dX12_put_29 (by decide) ?_
      refine T_icmp_ne (pc := 31) (tgt := 40) dX12_put_31 (by decide) (fun hc => ?_) (fun hc => ?_)
      · rw [if_neg hc] at H
        refine T_iload_n (pc := 40) dX12_put_40 rfl rfl ?_
        refine T_iconst (pc := 41) (v := 0) dX12_put_41 (by decide) ?_
        refine T_aload_n (pc := 42) dX12_put_42 rfl rfl ?_
        refine T_gR (pc := 43) fa_X12_13 dX12_put_43 (gR_mono (fun x5 H => ?_) H)
        refine T_iload_n (pc := 46) dX12_put_46 rfl rfl ?_
        refine T_aI (pc := 47) dX12_put_47 (aI_mono (fun x6 H => ?_) H)
        refine T_iconst (pc := 48) (v := 1) dX12_put_48 (by decide) ?_
        refine T_isub (pc := 49) dX12_put_49 ?_
        refine T_invS (pc := 50) (av := [jI v2, jI 0, jI (x6 - 1)]) (rest := []) dX12_put_50 mf_X12_in c_5_86 c_5_87 rfl (Nat.le_of_ble_eq_true rfl) rfl (iI_k (iI_mono (fun x7 h u H => ?_) H))
        refine T_if_ne (pc := 53) (tgt := 62) dX12_put_53 (by decide) (fun hc => ?_) (fun hc => ?_)
        · rw [if_neg hc] at H
          refine T_iload_n (pc := 62) dX12_put_62 rfl rfl ?_
          refine T_aload_n (pc := 63) dX12_put_63 rfl rfl ?_
          refine T_gR (pc := 64) fa_X12_7 dX12_put_64 (gR_mono (fun x8 H => ?_) H)
          refine T_iload_n (pc := 67) dX12_put_67 rfl rfl ?_
          refine T_aI (pc := 68) dX12_put_68 (aI_mono (fun x9 H => ?_) H)
          refine T_invS (pc := 69) (av := [jI v3, jI x9]) (rest := []) dX12_put_69 mf_X12_isWidened c_5_106 c_5_107 rfl (Nat.le_of_ble_eq_true rfl) rfl (iI_k (iI_mono (fun x10 h u H => ?_) H))
          refine T_if_ne (pc := 72) (tgt := 81) dX12_put_72 (by decide) (fun hc => ?_) (fun hc => ?_)
          · rw [if_neg hc] at H
            refine T_aload_n (pc := 81) dX12_put_81 rfl rfl ?_
            refine T_gR (pc := 82) fa_X12_20 dX12_put_82 (gR_mono (fun x11 H => ?_) H)
            refine T_bipush (pc := 85) (v := 20) dX12_put_85 (by decide) ?_
            refine T_iload_n (pc := 87) dX12_put_87 rfl rfl ?_
            refine T_imul (pc := 88) dX12_put_88 ?_
            refine T_iload_n (pc := 89) dX12_put_89 rfl rfl ?_
            refine T_iadd (pc := 90) dX12_put_90 ?_
            refine T_iload_n (pc := 91) dX12_put_91 rfl rfl ?_
            refine T_aload_n (pc := 92) dX12_put_92 rfl rfl ?_
            refine T_gR (pc := 93) fa_X12_7 dX12_put_93 (gR_mono (fun x12 H => ?_) H)
            refine T_iload_n (pc := 96) dX12_put_96 rfl rfl ?_
            refine T_aI (pc := 97) dX12_put_97 (aI_mono (fun x13 H => ?_) H)
            refine T_iload_n (pc := 98) dX12_put_98 rfl rfl ?_
            refine T_lload (pc := 99) dX12_put_99 rfl ?_
            refine T_invS (pc := 101) (av := [jI v3, jL v4]) (rest := [jI x13, jI v3, jI ((20 * v1) + v2), jR x11]) dX12_put_101 mf_X12_comes c_5_109 c_5_110 rfl (Nat.le_of_ble_eq_true rfl) rfl (iL_k (iL_mono (fun x14 h u H => ?_) H))
            refine T_invS (pc := 104) (av := [jI v3, jI x13, jL x14]) (rest := [jI ((20 * v1) + v2), jR x11]) dX12_put_104 mf_X12_widened c_5_133 c_5_134 rfl (Nat.le_of_ble_eq_true rfl) rfl (iL_k (iL_mono (fun x15 h u H => ?_) H))
            refine T_sL (pc := 107) dX12_put_107 (sV_mono (fun h H => ?_) H)
            refine T_iconst (pc := 108) (v := 1) dX12_put_108 (by decide) ?_
            exact T_ireturn (pc := 109) rfl rfl dX12_put_109 H
          · rw [if_pos hc] at H
            refine T_aload_n (pc := 75) dX12_put_75 rfl rfl ?_
            refine T_iconst (pc := 76) (v := 3) dX12_put_76 (by decide) ?_
            obtain ⟨H0, H⟩ := H
            refine T_iV (pc := 77) (ci := 11) (av := [jI 3]) (rest := []) (o := v0) dX12_put_77 mf_X12_fails c_5_89 c_5_91 pr_X12_fails rfl rfl (Nat.le_of_ble_eq_true rfl) rfl H0 (iI_k (iI_mono (fun x16 h u H => ?_) H))
            exact T_ireturn (pc := 80) rfl rfl dX12_put_80 H
        · rw [if_pos hc] at H
          refine T_aload_n (pc := 56) dX12_put_56 rfl rfl ?_
          refine T_iconst (pc := 57) (v := 2) dX12_put_57 (by decide) ?_
          obtain ⟨H0, H⟩ := H
          refine T_iV (pc := 58) (ci := 11) (av := [jI 2]) (rest := []) (o := v0) dX12_put_58 mf_X12_fails c_5_89 c_5_91 pr_X12_fails rfl rfl (Nat.le_of_ble_eq_true rfl) rfl H0 (iI_k (iI_mono (fun x17 h u H => ?_) H))
          exact T_ireturn (pc := 61) rfl rfl dX12_put_61 H
      · rw [if_pos hc] at H
        refine T_aload_n (pc := 34) dX12_put_34 rfl rfl ?_
        refine T_iconst (pc := 35) (v := 3) dX12_put_35 (by decide) ?_
        obtain ⟨H0, H⟩ := H
        refine T_iV (pc := 36) (ci := 11) (av := [jI 3]) (rest := []) (o := v0) dX12_put_36 mf_X12_fails c_5_89 c_5_91 pr_X12_fails rfl rfl (Nat.le_of_ble_eq_true rfl) rfl H0 (iI_k (iI_mono (fun x18 h u H => ?_) H))
        exact T_ireturn (pc := 39) rfl rfl dX12_put_39 H
    · rw [if_pos hc] at H
      refine T_bipush (pc := 20) (v := (-2)) dX12_put_20 (by decide) ?_
      exact T_ireturn (pc := 22) rfl rfl dX12_put_22 H
  · rw [if_pos hc] at H
    refine T_iconst (pc := 8) (v := (-1)) dX12_put_8 (by decide) ?_
    exact T_ireturn (pc := 9) rfl rfl dX12_put_9 H
theorem I_X12_put {d : Nat} {v0 : Option Nm} {v1 : Int32} {v2 : Int32} {v3 : Int32} {v4 : Int64} {h : MH} {u : Nat} {K : Int32 → MH → Nat → Prop} (u1 : Nat) (hu : u1 ≤ u) (H : F_X12_put d v0 v1 v2 v3 v4 h u1 (fun x h2 => K x h2 (u - u1))) : iI (d + 1) u_X12_put [jR v0, jI v1, jI v2, jI v3, jL v4] h u K := inv.of u1 hu (Ct.of (by decide +kernel) rfl (Nat.le_of_ble_eq_true rfl) rfl (E_X12_put H))
theorem dX12_get_0 : decode cX12_get 0 = .ok (.aload_n 0, 1) := by decide +kernel
theorem dX12_get_1 : decode cX12_get 1 = .ok (.iload_n 1, 1) := by decide +kernel
theorem dX12_get_2 : decode cX12_get 2 = .ok (.invokevirtual 170, 3) := by decide +kernel
theorem dX12_get_5 : decode cX12_get 5 = .ok (.ifCond .eq 13, 3) := by decide +kernel
theorem dX12_get_8 : decode cX12_get 8 = .ok (.iload_n 3, 1) := by decide +kernel
theorem dX12_get_9 : decode cX12_get 9 = .ok (.iconst 0, 1) := by decide +kernel
theorem dX12_get_10 : decode cX12_get 10 = .ok (.bipush 7, 2) := by decide +kernel
theorem dX12_get_12 : decode cX12_get 12 = .ok (.invokestatic 156, 3) := by decide +kernel
theorem dX12_get_15 : decode cX12_get 15 = .ok (.ifCond .ne 7, 3) := by decide +kernel
theorem dX12_get_18 : decode cX12_get 18 = .ok (.invokestatic 124, 3) := by decide +kernel
theorem dX12_get_21 : decode cX12_get 21 = .ok (.lreturn, 1) := by decide +kernel
theorem dX12_get_22 : decode cX12_get 22 = .ok (.aload_n 0, 1) := by decide +kernel
theorem dX12_get_23 : decode cX12_get 23 = .ok (.getfield 7, 3) := by decide +kernel
theorem dX12_get_26 : decode cX12_get 26 = .ok (.iload_n 1, 1) := by decide +kernel
theorem dX12_get_27 : decode cX12_get 27 = .ok (.iaload, 1) := by decide +kernel
theorem dX12_get_28 : decode cX12_get 28 = .ok (.bipush 8, 2) := by decide +kernel
theorem dX12_get_30 : decode cX12_get 30 = .ok (.if_icmp .ne 9, 3) := by decide +kernel
theorem dX12_get_33 : decode cX12_get 33 = .ok (.aload_n 0, 1) := by decide +kernel
theorem dX12_get_34 : decode cX12_get 34 = .ok (.iconst 3, 1) := by decide +kernel
theorem dX12_get_35 : decode cX12_get 35 = .ok (.invokevirtual 186, 3) := by decide +kernel
theorem dX12_get_38 : decode cX12_get 38 = .ok (.lreturn, 1) := by decide +kernel
theorem dX12_get_39 : decode cX12_get 39 = .ok (.iload_n 2, 1) := by decide +kernel
theorem dX12_get_40 : decode cX12_get 40 = .ok (.iconst 0, 1) := by decide +kernel
theorem dX12_get_41 : decode cX12_get 41 = .ok (.aload_n 0, 1) := by decide +kernel
theorem dX12_get_42 : decode cX12_get 42 = .ok (.getfield 13, 3) := by decide +kernel
theorem dX12_get_45 : decode cX12_get 45 = .ok (.iload_n 1, 1) := by decide +kernel
theorem dX12_get_46 : decode cX12_get 46 = .ok (.iaload, 1) := by decide +kernel
theorem dX12_get_47 : decode cX12_get 47 = .ok (.iconst 1, 1) := by decide +kernel
theorem dX12_get_48 : decode cX12_get 48 = .ok (.isub, 1) := by decide +kernel
theorem dX12_get_49 : decode cX12_get 49 = .ok (.invokestatic 156, 3) := by decide +kernel
theorem dX12_get_52 : decode cX12_get 52 = .ok (.ifCond .ne 9, 3) := by decide +kernel
theorem dX12_get_55 : decode cX12_get 55 = .ok (.aload_n 0, 1) := by decide +kernel
theorem dX12_get_56 : decode cX12_get 56 = .ok (.iconst 2, 1) := by decide +kernel
theorem dX12_get_57 : decode cX12_get 57 = .ok (.invokevirtual 186, 3) := by decide +kernel
theorem dX12_get_60 : decode cX12_get 60 = .ok (.lreturn, 1) := by decide +kernel
theorem dX12_get_61 : decode cX12_get 61 = .ok (.aload_n 0, 1) := by decide +kernel
theorem dX12_get_62 : decode cX12_get 62 = .ok (.getfield 7, 3) := by decide +kernel
theorem dX12_get_65 : decode cX12_get 65 = .ok (.iload_n 1, 1) := by decide +kernel
theorem dX12_get_66 : decode cX12_get 66 = .ok (.iaload, 1) := by decide +kernel
theorem dX12_get_67 : decode cX12_get 67 = .ok (.iload_n 3, 1) := by decide +kernel
theorem dX12_get_68 : decode cX12_get 68 = .ok (.invokestatic 174, 3) := by decide +kernel
theorem dX12_get_71 : decode cX12_get 71 = .ok (.ifCond .ne 9, 3) := by decide +kernel
theorem dX12_get_74 : decode cX12_get 74 = .ok (.aload_n 0, 1) := by decide +kernel
theorem dX12_get_75 : decode cX12_get 75 = .ok (.iconst 3, 1) := by decide +kernel
theorem dX12_get_76 : decode cX12_get 76 = .ok (.invokevirtual 186, 3) := by decide +kernel
theorem dX12_get_79 : decode cX12_get 79 = .ok (.lreturn, 1) := by decide +kernel
theorem dX12_get_80 : decode cX12_get 80 = .ok (.aload_n 0, 1) := by decide +kernel
theorem dX12_get_81 : decode cX12_get 81 = .ok (.getfield 7, 3) := by decide +kernel
theorem dX12_get_84 : decode cX12_get 84 = .ok (.iload_n 1, 1) := by decide +kernel
theorem dX12_get_85 : decode cX12_get 85 = .ok (.iaload, 1) := by decide +kernel
theorem dX12_get_86 : decode cX12_get 86 = .ok (.iload_n 3, 1) := by decide +kernel
theorem dX12_get_87 : decode cX12_get 87 = .ok (.aload_n 0, 1) := by decide +kernel
theorem dX12_get_88 : decode cX12_get 88 = .ok (.getfield 20, 3) := by decide +kernel
theorem dX12_get_91 : decode cX12_get 91 = .ok (.bipush 20, 2) := by decide +kernel
theorem dX12_get_93 : decode cX12_get 93 = .ok (.iload_n 1, 1) := by decide +kernel
theorem dX12_get_94 : decode cX12_get 94 = .ok (.imul, 1) := by decide +kernel
theorem dX12_get_95 : decode cX12_get 95 = .ok (.iload_n 2, 1) := by decide +kernel
theorem dX12_get_96 : decode cX12_get 96 = .ok (.iadd, 1) := by decide +kernel
theorem dX12_get_97 : decode cX12_get 97 = .ok (.laload, 1) := by decide +kernel
theorem dX12_get_98 : decode cX12_get 98 = .ok (.invokestatic 182, 3) := by decide +kernel
theorem dX12_get_101 : decode cX12_get 101 = .ok (.lreturn, 1) := by decide +kernel
def F_X12_get (d : Nat) (v0 : Option Nm) (v1 : Int32) (v2 : Int32) (v3 : Int32) (h : MH) (u : Nat) (Q : Int64 → MH → Prop) : Prop :=
  rc h v0 11 ∧ iI d u_X12_isRow [jR v0, jI v1] h u fun x1 h u =>
  if x1 = 0 then
    iL d u_X12_lost [] h u fun x2 h u =>
    Q x2 h
  else
    iI d u_X12_in [jI v3, jI 0, jI 7] h u fun x3 h u =>
    if x3 = 0 then
      iL d u_X12_lost [] h u fun x20 h u =>
      Q x20 h
    else
      gR h v0 11 4 fun x4 =>
      aI .int h x4 v1 fun x5 =>
      if x5 = 8 then
        rc h v0 11 ∧ iL d u_X12_failsLong [jR v0, jI 3] h u fun x19 h u =>
        Q x19 h
      else
        gR h v0 11 5 fun x6 =>
        aI .int h x6 v1 fun x7 =>
        iI d u_X12_in [jI v2, jI 0, jI (x7 - 1)] h u fun x8 h u =>
        if x8 = 0 then
          rc h v0 11 ∧ iL d u_X12_failsLong [jR v0, jI 2] h u fun x18 h u =>
          Q x18 h
        else
          gR h v0 11 4 fun x9 =>
          aI .int h x9 v1 fun x10 =>
          iI d u_X12_isWidened [jI x10, jI v3] h u fun x11 h u =>
          if x11 = 0 then
            rc h v0 11 ∧ iL d u_X12_failsLong [jR v0, jI 3] h u fun x17 h u =>
            Q x17 h
          else
            gR h v0 11 4 fun x12 =>
            aI .int h x12 v1 fun x13 =>
            gR h v0 11 7 fun x14 =>
            aL h x14 ((20 * v1) + v2) fun x15 =>
            iL d u_X12_widened [jI x13, jI v3, jL x15] h u fun x16 h u =>
            Q x16 h
set_option maxRecDepth 20000 in
theorem E_X12_get {d : Nat} {v0 : Option Nm} {v1 : Int32} {v2 : Int32} {v3 : Int32} {h : MH} {u : Nat} {Q : Int64 → MH → Prop} (H : F_X12_get d v0 v1 v2 v3 h u Q) : T u_X12_get (d + 1) 0 [some (jR v0), some (jI v1), some (jI v2), some (jI v3)] [] h u (qL Q) := by
  unfold F_X12_get at H
  refine T_aload_n (pc := 0) dX12_get_0 rfl rfl ?_
  refine T_iload_n (pc := 1) dX12_get_1 rfl rfl ?_
  obtain ⟨H0, H⟩ := H
  refine T_iV (pc := 2) (ci := 11) (av := [jI v1]) (rest := []) (o := v0) dX12_get_2 mf_X12_isRow c_5_102 c_5_104 pr_X12_isRow rfl rfl (Nat.le_of_ble_eq_true rfl) rfl H0 (iI_k (iI_mono (fun x1 h u H => ?_) H))
  refine T_if_eq (pc := 5) (tgt := 18) dX12_get_5 (by decide) (fun hc => ?_) (fun hc => ?_)
  · rw [if_pos hc] at H
    refine T_invS (pc := 18) (av := []) (rest := []) dX12_get_18 mf_X12_lost c_5_143 c_5_144 rfl (Nat.le_of_ble_eq_true rfl) rfl (iL_k (iL_mono (fun x2 h u H => ?_) H))
    exact T_lreturn (pc := 21) rfl dX12_get_21 H
  · rw [if_neg hc] at H
    refine T_iload_n (pc := 8) dX12_get_8 rfl rfl ?_
    refine T_iconst (pc := 9) (v := 0) dX12_get_9 (by decide) ?_
    refine T_bipush (pc := 10) (v := 7) dX12_get_10 (by decide) ?_
    refine T_invS (pc := 12) (av := [jI v3, jI 0, jI 7]) (rest := []) dX12_get_12 mf_X12_in c_5_86 c_5_87 rfl (Nat.le_of_ble_eq_true rfl) rfl (iI_k (iI_mono (fun x3 h u H => ?_) H))
    refine T_if_ne (pc := 15) (tgt := 22) dX12_get_15 (by decide) (fun hc => ?_) (fun hc => ?_)
    · rw [if_neg hc] at H
      refine T_aload_n (pc := 22) dX12_get_22 rfl rfl ?_
      refine T_gR (pc := 23) fa_X12_7 dX12_get_23 (gR_mono (fun x4 H => ?_) H)
      refine T_iload_n (pc := 26) dX12_get_26 rfl rfl ?_
      refine T_aI (pc := 27) dX12_get_27 (aI_mono (fun x5 H => ?_) H)
      refine T_bipush (pc := 28) (v := 8) dX12_get_28 (by decide) ?_
      refine T_icmp_ne (pc := 30) (tgt := 39) dX12_get_30 (by decide) (fun hc => ?_) (fun hc => ?_)
      · rw [if_neg hc] at H
        refine T_iload_n (pc := 39) dX12_get_39 rfl rfl ?_
        refine T_iconst (pc := 40) (v := 0) dX12_get_40 (by decide) ?_
        refine T_aload_n (pc := 41) dX12_get_41 rfl rfl ?_
        refine T_gR (pc := 42) fa_X12_13 dX12_get_42 (gR_mono (fun x6 H => ?_) H)
        refine T_iload_n (pc := 45) dX12_get_45 rfl rfl ?_
        refine T_aI (pc := 46) dX12_get_46 (aI_mono (fun x7 H => ?_) H)
        refine T_iconst (pc := 47) (v := 1) dX12_get_47 (by decide) ?_
        refine T_isub (pc := 48) dX12_get_48 ?_
        refine T_invS (pc := 49) (av := [jI v2, jI 0, jI (x7 - 1)]) (rest := []) dX12_get_49 mf_X12_in c_5_86 c_5_87 rfl (Nat.le_of_ble_eq_true rfl) rfl (iI_k (iI_mono (fun x8 h u H => ?_) H))
        refine T_if_ne (pc := 52) (tgt := 61) dX12_get_52 (by decide) (fun hc => ?_) (fun hc => ?_)
        · rw [if_neg hc] at H
          refine T_aload_n (pc := 61) dX12_get_61 rfl rfl ?_
          refine T_gR (pc := 62) fa_X12_7 dX12_get_62 (gR_mono (fun x9 H => ?_) H)
          refine T_iload_n (pc := 65) dX12_get_65 rfl rfl ?_
          refine T_aI (pc := 66) dX12_get_66 (aI_mono (fun x10 H => ?_) H)
          refine T_iload_n (pc := 67) dX12_get_67 rfl rfl ?_
          refine T_invS (pc := 68) (av := [jI x10, jI v3]) (rest := []) dX12_get_68 mf_X12_isWidened c_5_106 c_5_107 rfl (Nat.le_of_ble_eq_true rfl) rfl (iI_k (iI_mono (fun x11 h u H => ?_) H))
          refine T_if_ne (pc := 71) (tgt := 80) dX12_get_71 (by decide) (fun hc => ?_) (fun hc => ?_)
          · rw [if_neg hc] at H
            refine T_aload_n (pc := 80) dX12_get_80 rfl rfl ?_
            refine T_gR (pc := 81) fa_X12_7 dX12_get_81 (gR_mono (fun x12 H => ?_) H)
            refine T_iload_n (pc := 84) dX12_get_84 rfl rfl ?_
            refine T_aI (pc := 85) dX12_get_85 (aI_mono (fun x13 H => ?_) H)
            refine T_iload_n (pc := 86) dX12_get_86 rfl rfl ?_
            refine T_aload_n (pc := 87) dX12_get_87 rfl rfl ?_
            refine T_gR (pc := 88) fa_X12_20 dX12_get_88 (gR_mono (fun x14 H => ?_) H)
            refine T_bipush (pc := 91) (v := 20) dX12_get_91 (by decide) ?_
            refine T_iload_n (pc := 93) dX12_get_93 rfl rfl ?_
            refine T_imul (pc := 94) dX12_get_94 ?_
            refine T_iload_n (pc := 95) dX12_get_95 rfl rfl ?_
            refine T_iadd (pc := 96) dX12_get_96 ?_
            refine T_aL (pc := 97) dX12_get_97 (aL_mono (fun x15 H => ?_) H)
            refine T_invS (pc := 98) (av := [jI x13, jI v3, jL x15]) (rest := []) dX12_get_98 mf_X12_widened c_5_133 c_5_134 rfl (Nat.le_of_ble_eq_true rfl) rfl (iL_k (iL_mono (fun x16 h u H => ?_) H))
            exact T_lreturn (pc := 101) rfl dX12_get_101 H
          · rw [if_pos hc] at H
            refine T_aload_n (pc := 74) dX12_get_74 rfl rfl ?_
            refine T_iconst (pc := 75) (v := 3) dX12_get_75 (by decide) ?_
            obtain ⟨H0, H⟩ := H
            refine T_iV (pc := 76) (ci := 11) (av := [jI 3]) (rest := []) (o := v0) dX12_get_76 mf_X12_failsLong c_5_147 c_5_149 pr_X12_failsLong rfl rfl (Nat.le_of_ble_eq_true rfl) rfl H0 (iL_k (iL_mono (fun x17 h u H => ?_) H))
            exact T_lreturn (pc := 79) rfl dX12_get_79 H
        · rw [if_pos hc] at H
          refine T_aload_n (pc := 55) dX12_get_55 rfl rfl ?_
          refine T_iconst (pc := 56) (v := 2) dX12_get_56 (by decide) ?_
          obtain ⟨H0, H⟩ := H
          refine T_iV (pc := 57) (ci := 11) (av := [jI 2]) (rest := []) (o := v0) dX12_get_57 mf_X12_failsLong c_5_147 c_5_149 pr_X12_failsLong rfl rfl (Nat.le_of_ble_eq_true rfl) rfl H0 (iL_k (iL_mono (fun x18 h u H => ?_) H))
          exact T_lreturn (pc := 60) rfl dX12_get_60 H
      · rw [if_pos hc] at H
        refine T_aload_n (pc := 33) dX12_get_33 rfl rfl ?_
        refine T_iconst (pc := 34) (v := 3) dX12_get_34 (by decide) ?_
        obtain ⟨H0, H⟩ := H
        refine T_iV (pc := 35) (ci := 11) (av := [jI 3]) (rest := []) (o := v0) dX12_get_35 mf_X12_failsLong c_5_147 c_5_149 pr_X12_failsLong rfl rfl (Nat.le_of_ble_eq_true rfl) rfl H0 (iL_k (iL_mono (fun x19 h u H => ?_) H))
        exact T_lreturn (pc := 38) rfl dX12_get_38 H
    · rw [if_pos hc] at H
      refine T_invS (pc := 18) (av := []) (rest := []) dX12_get_18 mf_X12_lost c_5_143 c_5_144 rfl (Nat.le_of_ble_eq_true rfl) rfl (iL_k (iL_mono (fun x20 h u H => ?_) H))
      exact T_lreturn (pc := 21) rfl dX12_get_21 H
theorem I_X12_get {d : Nat} {v0 : Option Nm} {v1 : Int32} {v2 : Int32} {v3 : Int32} {h : MH} {u : Nat} {K : Int64 → MH → Nat → Prop} (u1 : Nat) (hu : u1 ≤ u) (H : F_X12_get d v0 v1 v2 v3 h u1 (fun x h2 => K x h2 (u - u1))) : iL (d + 1) u_X12_get [jR v0, jI v1, jI v2, jI v3] h u K := inv.of u1 hu (Ct.of (by decide +kernel) rfl (Nat.le_of_ble_eq_true rfl) rfl (E_X12_get H))
theorem dX12_lay_0 : decode cX12_lay 0 = .ok (.aload_n 0, 1) := by decide +kernel
theorem dX12_lay_1 : decode cX12_lay 1 = .ok (.iload_n 1, 1) := by decide +kernel
theorem dX12_lay_2 : decode cX12_lay 2 = .ok (.invokevirtual 170, 3) := by decide +kernel
theorem dX12_lay_5 : decode cX12_lay 5 = .ok (.ifCond .eq 16, 3) := by decide +kernel
theorem dX12_lay_8 : decode cX12_lay 8 = .ok (.iload_n 3, 1) := by decide +kernel
theorem dX12_lay_9 : decode cX12_lay 9 = .ok (.iconst (-1), 1) := by decide +kernel
theorem dX12_lay_10 : decode cX12_lay 10 = .ok (.if_icmp .eq 13, 3) := by decide +kernel
theorem dX12_lay_13 : decode cX12_lay 13 = .ok (.aload_n 0, 1) := by decide +kernel
theorem dX12_lay_14 : decode cX12_lay 14 = .ok (.iload_n 3, 1) := by decide +kernel
theorem dX12_lay_15 : decode cX12_lay 15 = .ok (.invokevirtual 190, 3) := by decide +kernel
theorem dX12_lay_18 : decode cX12_lay 18 = .ok (.ifCond .ne 5, 3) := by decide +kernel
theorem dX12_lay_21 : decode cX12_lay 21 = .ok (.iconst (-1), 1) := by decide +kernel
theorem dX12_lay_22 : decode cX12_lay 22 = .ok (.ireturn, 1) := by decide +kernel
theorem dX12_lay_23 : decode cX12_lay 23 = .ok (.aload_n 0, 1) := by decide +kernel
theorem dX12_lay_24 : decode cX12_lay 24 = .ok (.getfield 16, 3) := by decide +kernel
theorem dX12_lay_27 : decode cX12_lay 27 = .ok (.iload_n 1, 1) := by decide +kernel
theorem dX12_lay_28 : decode cX12_lay 28 = .ok (.baload, 1) := by decide +kernel
theorem dX12_lay_29 : decode cX12_lay 29 = .ok (.ifCond .eq 6, 3) := by decide +kernel
theorem dX12_lay_32 : decode cX12_lay 32 = .ok (.bipush (-3), 2) := by decide +kernel
theorem dX12_lay_34 : decode cX12_lay 34 = .ok (.ireturn, 1) := by decide +kernel
theorem dX12_lay_35 : decode cX12_lay 35 = .ok (.aload_n 0, 1) := by decide +kernel
theorem dX12_lay_36 : decode cX12_lay 36 = .ok (.getfield 7, 3) := by decide +kernel
theorem dX12_lay_39 : decode cX12_lay 39 = .ok (.iload_n 1, 1) := by decide +kernel
theorem dX12_lay_40 : decode cX12_lay 40 = .ok (.iaload, 1) := by decide +kernel
theorem dX12_lay_41 : decode cX12_lay 41 = .ok (.bipush 8, 2) := by decide +kernel
theorem dX12_lay_43 : decode cX12_lay 43 = .ok (.if_icmp .eq 9, 3) := by decide +kernel
theorem dX12_lay_46 : decode cX12_lay 46 = .ok (.aload_n 0, 1) := by decide +kernel
theorem dX12_lay_47 : decode cX12_lay 47 = .ok (.iconst 3, 1) := by decide +kernel
theorem dX12_lay_48 : decode cX12_lay 48 = .ok (.invokevirtual 166, 3) := by decide +kernel
theorem dX12_lay_51 : decode cX12_lay 51 = .ok (.ireturn, 1) := by decide +kernel
theorem dX12_lay_52 : decode cX12_lay 52 = .ok (.iload_n 2, 1) := by decide +kernel
theorem dX12_lay_53 : decode cX12_lay 53 = .ok (.iconst 0, 1) := by decide +kernel
theorem dX12_lay_54 : decode cX12_lay 54 = .ok (.aload_n 0, 1) := by decide +kernel
theorem dX12_lay_55 : decode cX12_lay 55 = .ok (.getfield 13, 3) := by decide +kernel
theorem dX12_lay_58 : decode cX12_lay 58 = .ok (.iload_n 1, 1) := by decide +kernel
theorem dX12_lay_59 : decode cX12_lay 59 = .ok (.iaload, 1) := by decide +kernel
theorem dX12_lay_60 : decode cX12_lay 60 = .ok (.iconst 1, 1) := by decide +kernel
theorem dX12_lay_61 : decode cX12_lay 61 = .ok (.isub, 1) := by decide +kernel
theorem dX12_lay_62 : decode cX12_lay 62 = .ok (.invokestatic 156, 3) := by decide +kernel
theorem dX12_lay_65 : decode cX12_lay 65 = .ok (.ifCond .ne 9, 3) := by decide +kernel
theorem dX12_lay_68 : decode cX12_lay 68 = .ok (.aload_n 0, 1) := by decide +kernel
theorem dX12_lay_69 : decode cX12_lay 69 = .ok (.iconst 2, 1) := by decide +kernel
theorem dX12_lay_70 : decode cX12_lay 70 = .ok (.invokevirtual 166, 3) := by decide +kernel
theorem dX12_lay_73 : decode cX12_lay 73 = .ok (.ireturn, 1) := by decide +kernel
theorem dX12_lay_74 : decode cX12_lay 74 = .ok (.aload_n 0, 1) := by decide +kernel
theorem dX12_lay_75 : decode cX12_lay 75 = .ok (.getfield 20, 3) := by decide +kernel
theorem dX12_lay_78 : decode cX12_lay 78 = .ok (.bipush 20, 2) := by decide +kernel
theorem dX12_lay_80 : decode cX12_lay 80 = .ok (.iload_n 1, 1) := by decide +kernel
theorem dX12_lay_81 : decode cX12_lay 81 = .ok (.imul, 1) := by decide +kernel
theorem dX12_lay_82 : decode cX12_lay 82 = .ok (.iload_n 2, 1) := by decide +kernel
theorem dX12_lay_83 : decode cX12_lay 83 = .ok (.iadd, 1) := by decide +kernel
theorem dX12_lay_84 : decode cX12_lay 84 = .ok (.iload_n 3, 1) := by decide +kernel
theorem dX12_lay_85 : decode cX12_lay 85 = .ok (.i2l, 1) := by decide +kernel
theorem dX12_lay_86 : decode cX12_lay 86 = .ok (.lastore, 1) := by decide +kernel
theorem dX12_lay_87 : decode cX12_lay 87 = .ok (.iconst 1, 1) := by decide +kernel
theorem dX12_lay_88 : decode cX12_lay 88 = .ok (.ireturn, 1) := by decide +kernel
def F_X12_lay_23 (d : Nat) (v0 : Option Nm) (v1 : Int32) (v2 : Int32) (v3 : Int32) (h : MH) (u : Nat) (Q : Int32 → MH → Prop) : Prop :=
  gR h v0 11 6 fun x1 =>
  aI .boolean h x1 v1 fun x2 =>
  if x2 = 0 then
    gR h v0 11 4 fun x3 =>
    aI .int h x3 v1 fun x4 =>
    if x4 = 8 then
      gR h v0 11 5 fun x5 =>
      aI .int h x5 v1 fun x6 =>
      iI d u_X12_in [jI v2, jI 0, jI (x6 - 1)] h u fun x7 h u =>
      if x7 = 0 then
        rc h v0 11 ∧ iI d u_X12_fails [jR v0, jI 2] h u fun x9 h u =>
        Q x9 h
      else
        gR h v0 11 7 fun x8 =>
        sV .long h x8 ((20 * v1) + v2) (jL (v3.toInt64)) fun h =>
        Q 1 h
    else
      rc h v0 11 ∧ iI d u_X12_fails [jR v0, jI 3] h u fun x10 h u =>
      Q x10 h
  else
    Q (-3) h
set_option maxRecDepth 20000 in
theorem E_X12_lay_23 {d : Nat} {v0 : Option Nm} {v1 : Int32} {v2 : Int32} {v3 : Int32} {h : MH} {u : Nat} {Q : Int32 → MH → Prop} (H : F_X12_lay_23 d v0 v1 v2 v3 h u Q) : T u_X12_lay (d + 1) 23 [some (jR v0), some (jI v1), some (jI v2), some (jI v3)] [] h u (qI Q) := by
  unfold F_X12_lay_23 at H
  refine T_aload_n (pc := 23) dX12_lay_23 rfl rfl ?_
  refine T_gR (pc := 24) fa_X12_16 dX12_lay_24 (gR_mono (fun x1 H => ?_) H)
  refine T_iload_n (pc := 27) dX12_lay_27 rfl rfl ?_
  refine T_aZ (pc := 28) dX12_lay_28 (aI_mono (fun x2 H => ?_) H)
  refine T_if_eq (pc := 29) (tgt := 35) dX12_lay_29 (by decide) (fun hc => ?_) (fun hc => ?_)
  · rw [if_pos hc] at H
    refine T_aload_n (pc := 35) dX12_lay_35 rfl rfl ?_
    refine T_gR (pc := 36) fa_X12_7 dX12_lay_36 (gR_mono (fun x3 H => ?_) H)
    refine T_iload_n (pc := 39) dX12_lay_39 rfl rfl ?_
    refine T_aI (pc := 40) dX12_lay_40 (aI_mono (fun x4 H => ?_) H)
    refine T_bipush (pc := 41) (v := 8) dX12_lay_41 (by decide) ?_
    refine T_icmp_eq (pc := 43) (tgt := 52) dX12_lay_43 (by decide) (fun hc => ?_) (fun hc => ?_)
    · rw [if_pos hc] at H
      refine T_iload_n (pc := 52) dX12_lay_52 rfl rfl ?_
      refine T_iconst (pc := 53) (v := 0) dX12_lay_53 (by decide) ?_
      refine T_aload_n (pc := 54) dX12_lay_54 rfl rfl ?_
      refine T_gR (pc := 55) fa_X12_13 dX12_lay_55 (gR_mono (fun x5 H => ?_) H)
      refine T_iload_n (pc := 58) dX12_lay_58 rfl rfl ?_
      refine T_aI (pc := 59) dX12_lay_59 (aI_mono (fun x6 H => ?_) H)
      refine T_iconst (pc := 60) (v := 1) dX12_lay_60 (by decide) ?_
      refine T_isub (pc := 61) dX12_lay_61 ?_
      refine T_invS (pc := 62) (av := [jI v2, jI 0, jI (x6 - 1)]) (rest := []) dX12_lay_62 mf_X12_in c_5_86 c_5_87 rfl (Nat.le_of_ble_eq_true rfl) rfl (iI_k (iI_mono (fun x7 h u H => ?_) H))
      refine T_if_ne (pc := 65) (tgt := 74) dX12_lay_65 (by decide) (fun hc => ?_) (fun hc => ?_)
      · rw [if_neg hc] at H
        refine T_aload_n (pc := 74) dX12_lay_74 rfl rfl ?_
        refine T_gR (pc := 75) fa_X12_20 dX12_lay_75 (gR_mono (fun x8 H => ?_) H)
        refine T_bipush (pc := 78) (v := 20) dX12_lay_78 (by decide) ?_
        refine T_iload_n (pc := 80) dX12_lay_80 rfl rfl ?_
        refine T_imul (pc := 81) dX12_lay_81 ?_
        refine T_iload_n (pc := 82) dX12_lay_82 rfl rfl ?_
        refine T_iadd (pc := 83) dX12_lay_83 ?_
        refine T_iload_n (pc := 84) dX12_lay_84 rfl rfl ?_
        refine T_i2l (pc := 85) dX12_lay_85 ?_
        refine T_sL (pc := 86) dX12_lay_86 (sV_mono (fun h H => ?_) H)
        refine T_iconst (pc := 87) (v := 1) dX12_lay_87 (by decide) ?_
        exact T_ireturn (pc := 88) rfl rfl dX12_lay_88 H
      · rw [if_pos hc] at H
        refine T_aload_n (pc := 68) dX12_lay_68 rfl rfl ?_
        refine T_iconst (pc := 69) (v := 2) dX12_lay_69 (by decide) ?_
        obtain ⟨H0, H⟩ := H
        refine T_iV (pc := 70) (ci := 11) (av := [jI 2]) (rest := []) (o := v0) dX12_lay_70 mf_X12_fails c_5_89 c_5_91 pr_X12_fails rfl rfl (Nat.le_of_ble_eq_true rfl) rfl H0 (iI_k (iI_mono (fun x9 h u H => ?_) H))
        exact T_ireturn (pc := 73) rfl rfl dX12_lay_73 H
    · rw [if_neg hc] at H
      refine T_aload_n (pc := 46) dX12_lay_46 rfl rfl ?_
      refine T_iconst (pc := 47) (v := 3) dX12_lay_47 (by decide) ?_
      obtain ⟨H0, H⟩ := H
      refine T_iV (pc := 48) (ci := 11) (av := [jI 3]) (rest := []) (o := v0) dX12_lay_48 mf_X12_fails c_5_89 c_5_91 pr_X12_fails rfl rfl (Nat.le_of_ble_eq_true rfl) rfl H0 (iI_k (iI_mono (fun x10 h u H => ?_) H))
      exact T_ireturn (pc := 51) rfl rfl dX12_lay_51 H
  · rw [if_neg hc] at H
    refine T_bipush (pc := 32) (v := (-3)) dX12_lay_32 (by decide) ?_
    exact T_ireturn (pc := 34) rfl rfl dX12_lay_34 H
def F_X12_lay (d : Nat) (v0 : Option Nm) (v1 : Int32) (v2 : Int32) (v3 : Int32) (h : MH) (u : Nat) (Q : Int32 → MH → Prop) : Prop :=
  rc h v0 11 ∧ iI d u_X12_isRow [jR v0, jI v1] h u fun x1 h u =>
  if x1 = 0 then
    Q (-1) h
  else
    if v3 = (-1) then
      F_X12_lay_23 d v0 v1 v2 v3 h u Q
    else
      rc h v0 11 ∧ iI d u_X12_isValue [jR v0, jI v3] h u fun x2 h u =>
      if x2 = 0 then
        Q (-1) h
      else
        F_X12_lay_23 d v0 v1 v2 v3 h u Q
set_option maxRecDepth 20000 in
theorem E_X12_lay {d : Nat} {v0 : Option Nm} {v1 : Int32} {v2 : Int32} {v3 : Int32} {h : MH} {u : Nat} {Q : Int32 → MH → Prop} (H : F_X12_lay d v0 v1 v2 v3 h u Q) : T u_X12_lay (d + 1) 0 [some (jR v0), some (jI v1), some (jI v2), some (jI v3)] [] h u (qI Q) := by
  unfold F_X12_lay at H
  refine T_aload_n (pc := 0) dX12_lay_0 rfl rfl ?_
  refine T_iload_n (pc := 1) dX12_lay_1 rfl rfl ?_
  obtain ⟨H0, H⟩ := H
  refine T_iV (pc := 2) (ci := 11) (av := [jI v1]) (rest := []) (o := v0) dX12_lay_2 mf_X12_isRow c_5_102 c_5_104 pr_X12_isRow rfl rfl (Nat.le_of_ble_eq_true rfl) rfl H0 (iI_k (iI_mono (fun x1 h u H => ?_) H))
  refine T_if_eq (pc := 5) (tgt := 21) dX12_lay_5 (by decide) (fun hc => ?_) (fun hc => ?_)
  · rw [if_pos hc] at H
    refine T_iconst (pc := 21) (v := (-1)) dX12_lay_21 (by decide) ?_
    exact T_ireturn (pc := 22) rfl rfl dX12_lay_22 H
  · rw [if_neg hc] at H
    refine T_iload_n (pc := 8) dX12_lay_8 rfl rfl ?_
    refine T_iconst (pc := 9) (v := (-1)) dX12_lay_9 (by decide) ?_
    refine T_icmp_eq (pc := 10) (tgt := 23) dX12_lay_10 (by decide) (fun hc => ?_) (fun hc => ?_)
    · rw [if_pos hc] at H
      exact T.forget (E_X12_lay_23 H) ⟨rfl, rfl, rfl, rfl, trivial⟩
    · rw [if_neg hc] at H
      refine T_aload_n (pc := 13) dX12_lay_13 rfl rfl ?_
      refine T_iload_n (pc := 14) dX12_lay_14 rfl rfl ?_
      obtain ⟨H0, H⟩ := H
      refine T_iV (pc := 15) (ci := 11) (av := [jI v3]) (rest := []) (o := v0) dX12_lay_15 mf_X12_isValue c_5_155 c_5_157 pr_X12_isValue rfl rfl (Nat.le_of_ble_eq_true rfl) rfl H0 (iI_k (iI_mono (fun x2 h u H => ?_) H))
      refine T_if_ne (pc := 18) (tgt := 23) dX12_lay_18 (by decide) (fun hc => ?_) (fun hc => ?_)
      · rw [if_neg hc] at H
        exact T.forget (E_X12_lay_23 H) ⟨rfl, rfl, rfl, rfl, trivial⟩
      · rw [if_pos hc] at H
        refine T_iconst (pc := 21) (v := (-1)) dX12_lay_21 (by decide) ?_
        exact T_ireturn (pc := 22) rfl rfl dX12_lay_22 H
theorem I_X12_lay {d : Nat} {v0 : Option Nm} {v1 : Int32} {v2 : Int32} {v3 : Int32} {h : MH} {u : Nat} {K : Int32 → MH → Nat → Prop} (u1 : Nat) (hu : u1 ≤ u) (H : F_X12_lay d v0 v1 v2 v3 h u1 (fun x h2 => K x h2 (u - u1))) : iI (d + 1) u_X12_lay [jR v0, jI v1, jI v2, jI v3] h u K := inv.of u1 hu (Ct.of (by decide +kernel) rfl (Nat.le_of_ble_eq_true rfl) rfl (E_X12_lay H))
theorem dX12_at_0 : decode cX12_at 0 = .ok (.aload_n 0, 1) := by decide +kernel
theorem dX12_at_1 : decode cX12_at 1 = .ok (.iload_n 1, 1) := by decide +kernel
theorem dX12_at_2 : decode cX12_at 2 = .ok (.invokevirtual 170, 3) := by decide +kernel
theorem dX12_at_5 : decode cX12_at 5 = .ok (.ifCond .ne 5, 3) := by decide +kernel
theorem dX12_at_8 : decode cX12_at 8 = .ok (.iconst (-1), 1) := by decide +kernel
theorem dX12_at_9 : decode cX12_at 9 = .ok (.ireturn, 1) := by decide +kernel
theorem dX12_at_10 : decode cX12_at 10 = .ok (.aload_n 0, 1) := by decide +kernel
theorem dX12_at_11 : decode cX12_at 11 = .ok (.getfield 7, 3) := by decide +kernel
theorem dX12_at_14 : decode cX12_at 14 = .ok (.iload_n 1, 1) := by decide +kernel
theorem dX12_at_15 : decode cX12_at 15 = .ok (.iaload, 1) := by decide +kernel
theorem dX12_at_16 : decode cX12_at 16 = .ok (.bipush 8, 2) := by decide +kernel
theorem dX12_at_18 : decode cX12_at 18 = .ok (.if_icmp .eq 9, 3) := by decide +kernel
theorem dX12_at_21 : decode cX12_at 21 = .ok (.aload_n 0, 1) := by decide +kernel
theorem dX12_at_22 : decode cX12_at 22 = .ok (.iconst 3, 1) := by decide +kernel
theorem dX12_at_23 : decode cX12_at 23 = .ok (.invokevirtual 166, 3) := by decide +kernel
theorem dX12_at_26 : decode cX12_at 26 = .ok (.ireturn, 1) := by decide +kernel
theorem dX12_at_27 : decode cX12_at 27 = .ok (.iload_n 2, 1) := by decide +kernel
theorem dX12_at_28 : decode cX12_at 28 = .ok (.iconst 0, 1) := by decide +kernel
theorem dX12_at_29 : decode cX12_at 29 = .ok (.aload_n 0, 1) := by decide +kernel
theorem dX12_at_30 : decode cX12_at 30 = .ok (.getfield 13, 3) := by decide +kernel
theorem dX12_at_33 : decode cX12_at 33 = .ok (.iload_n 1, 1) := by decide +kernel
theorem dX12_at_34 : decode cX12_at 34 = .ok (.iaload, 1) := by decide +kernel
theorem dX12_at_35 : decode cX12_at 35 = .ok (.iconst 1, 1) := by decide +kernel
theorem dX12_at_36 : decode cX12_at 36 = .ok (.isub, 1) := by decide +kernel
theorem dX12_at_37 : decode cX12_at 37 = .ok (.invokestatic 156, 3) := by decide +kernel
theorem dX12_at_40 : decode cX12_at 40 = .ok (.ifCond .ne 9, 3) := by decide +kernel
theorem dX12_at_43 : decode cX12_at 43 = .ok (.aload_n 0, 1) := by decide +kernel
theorem dX12_at_44 : decode cX12_at 44 = .ok (.iconst 2, 1) := by decide +kernel
theorem dX12_at_45 : decode cX12_at 45 = .ok (.invokevirtual 166, 3) := by decide +kernel
theorem dX12_at_48 : decode cX12_at 48 = .ok (.ireturn, 1) := by decide +kernel
theorem dX12_at_49 : decode cX12_at 49 = .ok (.aload_n 0, 1) := by decide +kernel
theorem dX12_at_50 : decode cX12_at 50 = .ok (.getfield 20, 3) := by decide +kernel
theorem dX12_at_53 : decode cX12_at 53 = .ok (.bipush 20, 2) := by decide +kernel
theorem dX12_at_55 : decode cX12_at 55 = .ok (.iload_n 1, 1) := by decide +kernel
theorem dX12_at_56 : decode cX12_at 56 = .ok (.imul, 1) := by decide +kernel
theorem dX12_at_57 : decode cX12_at 57 = .ok (.iload_n 2, 1) := by decide +kernel
theorem dX12_at_58 : decode cX12_at 58 = .ok (.iadd, 1) := by decide +kernel
theorem dX12_at_59 : decode cX12_at 59 = .ok (.laload, 1) := by decide +kernel
theorem dX12_at_60 : decode cX12_at 60 = .ok (.lconst 0, 1) := by decide +kernel
theorem dX12_at_61 : decode cX12_at 61 = .ok (.lcmp, 1) := by decide +kernel
theorem dX12_at_62 : decode cX12_at 62 = .ok (.ifCond .ge 8, 3) := by decide +kernel
theorem dX12_at_65 : decode cX12_at 65 = .ok (.bipush (-5), 2) := by decide +kernel
theorem dX12_at_67 : decode cX12_at 67 = .ok (.goto 15, 3) := by decide +kernel
theorem dX12_at_70 : decode cX12_at 70 = .ok (.aload_n 0, 1) := by decide +kernel
theorem dX12_at_71 : decode cX12_at 71 = .ok (.getfield 20, 3) := by decide +kernel
theorem dX12_at_74 : decode cX12_at 74 = .ok (.bipush 20, 2) := by decide +kernel
theorem dX12_at_76 : decode cX12_at 76 = .ok (.iload_n 1, 1) := by decide +kernel
theorem dX12_at_77 : decode cX12_at 77 = .ok (.imul, 1) := by decide +kernel
theorem dX12_at_78 : decode cX12_at 78 = .ok (.iload_n 2, 1) := by decide +kernel
theorem dX12_at_79 : decode cX12_at 79 = .ok (.iadd, 1) := by decide +kernel
theorem dX12_at_80 : decode cX12_at 80 = .ok (.laload, 1) := by decide +kernel
theorem dX12_at_81 : decode cX12_at 81 = .ok (.l2i, 1) := by decide +kernel
theorem dX12_at_82 : decode cX12_at 82 = .ok (.ireturn, 1) := by decide +kernel
def F_X12_at (d : Nat) (v0 : Option Nm) (v1 : Int32) (v2 : Int32) (h : MH) (u : Nat) (Q : Int32 → MH → Prop) : Prop :=
  rc h v0 11 ∧ iI d u_X12_isRow [jR v0, jI v1] h u fun x1 h u =>
  if x1 = 0 then
    Q (-1) h
  else
    gR h v0 11 4 fun x2 =>
    aI .int h x2 v1 fun x3 =>
    if x3 = 8 then
      gR h v0 11 5 fun x4 =>
      aI .int h x4 v1 fun x5 =>
      iI d u_X12_in [jI v2, jI 0, jI (x5 - 1)] h u fun x6 h u =>
      if x6 = 0 then
        rc h v0 11 ∧ iI d u_X12_fails [jR v0, jI 2] h u fun x11 h u =>
        Q x11 h
      else
        gR h v0 11 7 fun x7 =>
        aL h x7 ((20 * v1) + v2) fun x8 =>
        if 0 ≤ (lg_cmp x8 0) then
          gR h v0 11 7 fun x9 =>
          aL h x9 ((20 * v1) + v2) fun x10 =>
          Q (x10.toInt32) h
        else
          Q (-5) h
    else
      rc h v0 11 ∧ iI d u_X12_fails [jR v0, jI 3] h u fun x12 h u =>
      Q x12 h
set_option maxRecDepth 20000 in
theorem E_X12_at {d : Nat} {v0 : Option Nm} {v1 : Int32} {v2 : Int32} {h : MH} {u : Nat} {Q : Int32 → MH → Prop} (H : F_X12_at d v0 v1 v2 h u Q) : T u_X12_at (d + 1) 0 [some (jR v0), some (jI v1), some (jI v2)] [] h u (qI Q) := by
  unfold F_X12_at at H
  refine T_aload_n (pc := 0) dX12_at_0 rfl rfl ?_
  refine T_iload_n (pc := 1) dX12_at_1 rfl rfl ?_
  obtain ⟨H0, H⟩ := H
  refine T_iV (pc := 2) (ci := 11) (av := [jI v1]) (rest := []) (o := v0) dX12_at_2 mf_X12_isRow c_5_102 c_5_104 pr_X12_isRow rfl rfl (Nat.le_of_ble_eq_true rfl) rfl H0 (iI_k (iI_mono (fun x1 h u H => ?_) H))
  refine T_if_ne (pc := 5) (tgt := 10) dX12_at_5 (by decide) (fun hc => ?_) (fun hc => ?_)
  · rw [if_neg hc] at H
    refine T_aload_n (pc := 10) dX12_at_10 rfl rfl ?_
    refine T_gR (pc := 11) fa_X12_7 dX12_at_11 (gR_mono (fun x2 H => ?_) H)
    refine T_iload_n (pc := 14) dX12_at_14 rfl rfl ?_
    refine T_aI (pc := 15) dX12_at_15 (aI_mono (fun x3 H => ?_) H)
    refine T_bipush (pc := 16) (v := 8) dX12_at_16 (by decide) ?_
    refine T_icmp_eq (pc := 18) (tgt := 27) dX12_at_18 (by decide) (fun hc => ?_) (fun hc => ?_)
    · rw [if_pos hc] at H
      refine T_iload_n (pc := 27) dX12_at_27 rfl rfl ?_
      refine T_iconst (pc := 28) (v := 0) dX12_at_28 (by decide) ?_
      refine T_aload_n (pc := 29) dX12_at_29 rfl rfl ?_
      refine T_gR (pc := 30) fa_X12_13 dX12_at_30 (gR_mono (fun x4 H => ?_) H)
      refine T_iload_n (pc := 33) dX12_at_33 rfl rfl ?_
      refine T_aI (pc := 34) dX12_at_34 (aI_mono (fun x5 H => ?_) H)
      refine T_iconst (pc := 35) (v := 1) dX12_at_35 (by decide) ?_
      refine T_isub (pc := 36) dX12_at_36 ?_
      refine T_invS (pc := 37) (av := [jI v2, jI 0, jI (x5 - 1)]) (rest := []) dX12_at_37 mf_X12_in c_5_86 c_5_87 rfl (Nat.le_of_ble_eq_true rfl) rfl (iI_k (iI_mono (fun x6 h u H => ?_) H))
      refine T_if_ne (pc := 40) (tgt := 49) dX12_at_40 (by decide) (fun hc => ?_) (fun hc => ?_)
      · rw [if_neg hc] at H
        refine T_aload_n (pc := 49) dX12_at_49 rfl rfl ?_
        refine T_gR (pc := 50) fa_X12_20 dX12_at_50 (gR_mono (fun x7 H => ?_) H)
        refine T_bipush (pc := 53) (v := 20) dX12_at_53 (by decide) ?_
        refine T_iload_n (pc := 55) dX12_at_55 rfl rfl ?_
        refine T_imul (pc := 56) dX12_at_56 ?_
        refine T_iload_n (pc := 57) dX12_at_57 rfl rfl ?_
        refine T_iadd (pc := 58) dX12_at_58 ?_
        refine T_aL (pc := 59) dX12_at_59 (aL_mono (fun x8 H => ?_) H)
        refine T_lconst (pc := 60) (v := 0) dX12_at_60 (by decide) ?_
        refine T_lcmp (pc := 61) dX12_at_61 ?_
        refine T_if_ge (pc := 62) (tgt := 70) dX12_at_62 (by decide) (fun hc => ?_) (fun hc => ?_)
        · rw [if_pos hc] at H
          refine T_aload_n (pc := 70) dX12_at_70 rfl rfl ?_
          refine T_gR (pc := 71) fa_X12_20 dX12_at_71 (gR_mono (fun x9 H => ?_) H)
          refine T_bipush (pc := 74) (v := 20) dX12_at_74 (by decide) ?_
          refine T_iload_n (pc := 76) dX12_at_76 rfl rfl ?_
          refine T_imul (pc := 77) dX12_at_77 ?_
          refine T_iload_n (pc := 78) dX12_at_78 rfl rfl ?_
          refine T_iadd (pc := 79) dX12_at_79 ?_
          refine T_aL (pc := 80) dX12_at_80 (aL_mono (fun x10 H => ?_) H)
          refine T_l2i (pc := 81) dX12_at_81 ?_
          exact T_ireturn (pc := 82) rfl rfl dX12_at_82 H
        · rw [if_neg hc] at H
          refine T_bipush (pc := 65) (v := (-5)) dX12_at_65 (by decide) ?_
          refine T_goto (pc := 67) (tgt := 82) dX12_at_67 (by decide) ?_
          exact T_ireturn (pc := 82) rfl rfl dX12_at_82 H
      · rw [if_pos hc] at H
        refine T_aload_n (pc := 43) dX12_at_43 rfl rfl ?_
        refine T_iconst (pc := 44) (v := 2) dX12_at_44 (by decide) ?_
        obtain ⟨H0, H⟩ := H
        refine T_iV (pc := 45) (ci := 11) (av := [jI 2]) (rest := []) (o := v0) dX12_at_45 mf_X12_fails c_5_89 c_5_91 pr_X12_fails rfl rfl (Nat.le_of_ble_eq_true rfl) rfl H0 (iI_k (iI_mono (fun x11 h u H => ?_) H))
        exact T_ireturn (pc := 48) rfl rfl dX12_at_48 H
    · rw [if_neg hc] at H
      refine T_aload_n (pc := 21) dX12_at_21 rfl rfl ?_
      refine T_iconst (pc := 22) (v := 3) dX12_at_22 (by decide) ?_
      obtain ⟨H0, H⟩ := H
      refine T_iV (pc := 23) (ci := 11) (av := [jI 3]) (rest := []) (o := v0) dX12_at_23 mf_X12_fails c_5_89 c_5_91 pr_X12_fails rfl rfl (Nat.le_of_ble_eq_true rfl) rfl H0 (iI_k (iI_mono (fun x12 h u H => ?_) H))
      exact T_ireturn (pc := 26) rfl rfl dX12_at_26 H
  · rw [if_pos hc] at H
    refine T_iconst (pc := 8) (v := (-1)) dX12_at_8 (by decide) ?_
    exact T_ireturn (pc := 9) rfl rfl dX12_at_9 H
theorem I_X12_at {d : Nat} {v0 : Option Nm} {v1 : Int32} {v2 : Int32} {h : MH} {u : Nat} {K : Int32 → MH → Nat → Prop} (u1 : Nat) (hu : u1 ≤ u) (H : F_X12_at d v0 v1 v2 h u1 (fun x h2 => K x h2 (u - u1))) : iI (d + 1) u_X12_at [jR v0, jI v1, jI v2] h u K := inv.of u1 hu (Ct.of (by decide +kernel) rfl (Nat.le_of_ble_eq_true rfl) rfl (E_X12_at H))
theorem dX12_length_0 : decode cX12_length 0 = .ok (.aload_n 0, 1) := by decide +kernel
theorem dX12_length_1 : decode cX12_length 1 = .ok (.iload_n 1, 1) := by decide +kernel
theorem dX12_length_2 : decode cX12_length 2 = .ok (.invokevirtual 170, 3) := by decide +kernel
theorem dX12_length_5 : decode cX12_length 5 = .ok (.ifCond .ne 5, 3) := by decide +kernel
theorem dX12_length_8 : decode cX12_length 8 = .ok (.iconst (-1), 1) := by decide +kernel
theorem dX12_length_9 : decode cX12_length 9 = .ok (.ireturn, 1) := by decide +kernel
theorem dX12_length_10 : decode cX12_length 10 = .ok (.iload_n 2, 1) := by decide +kernel
theorem dX12_length_11 : decode cX12_length 11 = .ok (.ifCond .ne 12, 3) := by decide +kernel
theorem dX12_length_14 : decode cX12_length 14 = .ok (.aload_n 0, 1) := by decide +kernel
theorem dX12_length_15 : decode cX12_length 15 = .ok (.getfield 7, 3) := by decide +kernel
theorem dX12_length_18 : decode cX12_length 18 = .ok (.iload_n 1, 1) := by decide +kernel
theorem dX12_length_19 : decode cX12_length 19 = .ok (.iaload, 1) := by decide +kernel
theorem dX12_length_20 : decode cX12_length 20 = .ok (.goto 41, 3) := by decide +kernel
theorem dX12_length_23 : decode cX12_length 23 = .ok (.iload_n 2, 1) := by decide +kernel
theorem dX12_length_24 : decode cX12_length 24 = .ok (.iconst 1, 1) := by decide +kernel
theorem dX12_length_25 : decode cX12_length 25 = .ok (.if_icmp .ne 12, 3) := by decide +kernel
theorem dX12_length_28 : decode cX12_length 28 = .ok (.aload_n 0, 1) := by decide +kernel
theorem dX12_length_29 : decode cX12_length 29 = .ok (.getfield 13, 3) := by decide +kernel
theorem dX12_length_32 : decode cX12_length 32 = .ok (.iload_n 1, 1) := by decide +kernel
theorem dX12_length_33 : decode cX12_length 33 = .ok (.iaload, 1) := by decide +kernel
theorem dX12_length_34 : decode cX12_length 34 = .ok (.goto 27, 3) := by decide +kernel
theorem dX12_length_37 : decode cX12_length 37 = .ok (.iload_n 2, 1) := by decide +kernel
theorem dX12_length_38 : decode cX12_length 38 = .ok (.iconst 2, 1) := by decide +kernel
theorem dX12_length_39 : decode cX12_length 39 = .ok (.if_icmp .ne 20, 3) := by decide +kernel
theorem dX12_length_42 : decode cX12_length 42 = .ok (.aload_n 0, 1) := by decide +kernel
theorem dX12_length_43 : decode cX12_length 43 = .ok (.getfield 16, 3) := by decide +kernel
theorem dX12_length_46 : decode cX12_length 46 = .ok (.iload_n 1, 1) := by decide +kernel
theorem dX12_length_47 : decode cX12_length 47 = .ok (.baload, 1) := by decide +kernel
theorem dX12_length_48 : decode cX12_length 48 = .ok (.ifCond .eq 7, 3) := by decide +kernel
theorem dX12_length_51 : decode cX12_length 51 = .ok (.iconst 1, 1) := by decide +kernel
theorem dX12_length_52 : decode cX12_length 52 = .ok (.goto 9, 3) := by decide +kernel
theorem dX12_length_55 : decode cX12_length 55 = .ok (.iconst 0, 1) := by decide +kernel
theorem dX12_length_56 : decode cX12_length 56 = .ok (.goto 5, 3) := by decide +kernel
theorem dX12_length_59 : decode cX12_length 59 = .ok (.bipush (-2), 2) := by decide +kernel
theorem dX12_length_61 : decode cX12_length 61 = .ok (.ireturn, 1) := by decide +kernel
def F_X12_length (d : Nat) (v0 : Option Nm) (v1 : Int32) (v2 : Int32) (h : MH) (u : Nat) (Q : Int32 → MH → Prop) : Prop :=
  rc h v0 11 ∧ iI d u_X12_isRow [jR v0, jI v1] h u fun x1 h u =>
  if x1 = 0 then
    Q (-1) h
  else
    if v2 = 0 then
      gR h v0 11 4 fun x6 =>
      aI .int h x6 v1 fun x7 =>
      Q x7 h
    else
      if v2 = 1 then
        gR h v0 11 5 fun x4 =>
        aI .int h x4 v1 fun x5 =>
        Q x5 h
      else
        if v2 = 2 then
          gR h v0 11 6 fun x2 =>
          aI .boolean h x2 v1 fun x3 =>
          if x3 = 0 then
            Q 0 h
          else
            Q 1 h
        else
          Q (-2) h
set_option maxRecDepth 20000 in
theorem E_X12_length {d : Nat} {v0 : Option Nm} {v1 : Int32} {v2 : Int32} {h : MH} {u : Nat} {Q : Int32 → MH → Prop} (H : F_X12_length d v0 v1 v2 h u Q) : T u_X12_length (d + 1) 0 [some (jR v0), some (jI v1), some (jI v2)] [] h u (qI Q) := by
  unfold F_X12_length at H
  refine T_aload_n (pc := 0) dX12_length_0 rfl rfl ?_
  refine T_iload_n (pc := 1) dX12_length_1 rfl rfl ?_
  obtain ⟨H0, H⟩ := H
  refine T_iV (pc := 2) (ci := 11) (av := [jI v1]) (rest := []) (o := v0) dX12_length_2 mf_X12_isRow c_5_102 c_5_104 pr_X12_isRow rfl rfl (Nat.le_of_ble_eq_true rfl) rfl H0 (iI_k (iI_mono (fun x1 h u H => ?_) H))
  refine T_if_ne (pc := 5) (tgt := 10) dX12_length_5 (by decide) (fun hc => ?_) (fun hc => ?_)
  · rw [if_neg hc] at H
    refine T_iload_n (pc := 10) dX12_length_10 rfl rfl ?_
    refine T_if_ne (pc := 11) (tgt := 23) dX12_length_11 (by decide) (fun hc => ?_) (fun hc => ?_)
    · rw [if_neg hc] at H
      refine T_iload_n (pc := 23) dX12_length_23 rfl rfl ?_
      refine T_iconst (pc := 24) (v := 1) dX12_length_24 (by decide) ?_
      refine T_icmp_ne (pc := 25) (tgt := 37) dX12_length_25 (by decide) (fun hc => ?_) (fun hc => ?_)
      · rw [if_neg hc] at H
        refine T_iload_n (pc := 37) dX12_length_37 rfl rfl ?_
        refine T_iconst (pc := 38) (v := 2) dX12_length_38 (by decide) ?_
        refine T_icmp_ne (pc := 39) (tgt := 59) dX12_length_39 (by decide) (fun hc => ?_) (fun hc => ?_)
        · rw [if_neg hc] at H
          refine T_bipush (pc := 59) (v := (-2)) dX12_length_59 (by decide) ?_
          exact T_ireturn (pc := 61) rfl rfl dX12_length_61 H
        · rw [if_pos hc] at H
          refine T_aload_n (pc := 42) dX12_length_42 rfl rfl ?_
          refine T_gR (pc := 43) fa_X12_16 dX12_length_43 (gR_mono (fun x2 H => ?_) H)
          refine T_iload_n (pc := 46) dX12_length_46 rfl rfl ?_
          refine T_aZ (pc := 47) dX12_length_47 (aI_mono (fun x3 H => ?_) H)
          refine T_if_eq (pc := 48) (tgt := 55) dX12_length_48 (by decide) (fun hc => ?_) (fun hc => ?_)
          · rw [if_pos hc] at H
            refine T_iconst (pc := 55) (v := 0) dX12_length_55 (by decide) ?_
            refine T_goto (pc := 56) (tgt := 61) dX12_length_56 (by decide) ?_
            exact T_ireturn (pc := 61) rfl rfl dX12_length_61 H
          · rw [if_neg hc] at H
            refine T_iconst (pc := 51) (v := 1) dX12_length_51 (by decide) ?_
            refine T_goto (pc := 52) (tgt := 61) dX12_length_52 (by decide) ?_
            exact T_ireturn (pc := 61) rfl rfl dX12_length_61 H
      · rw [if_pos hc] at H
        refine T_aload_n (pc := 28) dX12_length_28 rfl rfl ?_
        refine T_gR (pc := 29) fa_X12_13 dX12_length_29 (gR_mono (fun x4 H => ?_) H)
        refine T_iload_n (pc := 32) dX12_length_32 rfl rfl ?_
        refine T_aI (pc := 33) dX12_length_33 (aI_mono (fun x5 H => ?_) H)
        refine T_goto (pc := 34) (tgt := 61) dX12_length_34 (by decide) ?_
        exact T_ireturn (pc := 61) rfl rfl dX12_length_61 H
    · rw [if_pos hc] at H
      refine T_aload_n (pc := 14) dX12_length_14 rfl rfl ?_
      refine T_gR (pc := 15) fa_X12_7 dX12_length_15 (gR_mono (fun x6 H => ?_) H)
      refine T_iload_n (pc := 18) dX12_length_18 rfl rfl ?_
      refine T_aI (pc := 19) dX12_length_19 (aI_mono (fun x7 H => ?_) H)
      refine T_goto (pc := 20) (tgt := 61) dX12_length_20 (by decide) ?_
      exact T_ireturn (pc := 61) rfl rfl dX12_length_61 H
  · rw [if_pos hc] at H
    refine T_iconst (pc := 8) (v := (-1)) dX12_length_8 (by decide) ?_
    exact T_ireturn (pc := 9) rfl rfl dX12_length_9 H
theorem I_X12_length {d : Nat} {v0 : Option Nm} {v1 : Int32} {v2 : Int32} {h : MH} {u : Nat} {K : Int32 → MH → Nat → Prop} (u1 : Nat) (hu : u1 ≤ u) (H : F_X12_length d v0 v1 v2 h u1 (fun x h2 => K x h2 (u - u1))) : iI (d + 1) u_X12_length [jR v0, jI v1, jI v2] h u K := inv.of u1 hu (Ct.of (by decide +kernel) rfl (Nat.le_of_ble_eq_true rfl) rfl (E_X12_length H))
theorem dX12_isBeyond_0 : decode cX12_isBeyond 0 = .ok (.iload_n 0, 1) := by decide +kernel
theorem dX12_isBeyond_1 : decode cX12_isBeyond 1 = .ok (.ifCond .lt 18, 3) := by decide +kernel
theorem dX12_isBeyond_4 : decode cX12_isBeyond 4 = .ok (.iload_n 1, 1) := by decide +kernel
theorem dX12_isBeyond_5 : decode cX12_isBeyond 5 = .ok (.ifCond .lt 14, 3) := by decide +kernel
theorem dX12_isBeyond_8 : decode cX12_isBeyond 8 = .ok (.iload_n 0, 1) := by decide +kernel
theorem dX12_isBeyond_9 : decode cX12_isBeyond 9 = .ok (.i2l, 1) := by decide +kernel
theorem dX12_isBeyond_10 : decode cX12_isBeyond 10 = .ok (.iload_n 1, 1) := by decide +kernel
theorem dX12_isBeyond_11 : decode cX12_isBeyond 11 = .ok (.i2l, 1) := by decide +kernel
theorem dX12_isBeyond_12 : decode cX12_isBeyond 12 = .ok (.ladd, 1) := by decide +kernel
theorem dX12_isBeyond_13 : decode cX12_isBeyond 13 = .ok (.iload_n 2, 1) := by decide +kernel
theorem dX12_isBeyond_14 : decode cX12_isBeyond 14 = .ok (.i2l, 1) := by decide +kernel
theorem dX12_isBeyond_15 : decode cX12_isBeyond 15 = .ok (.lcmp, 1) := by decide +kernel
theorem dX12_isBeyond_16 : decode cX12_isBeyond 16 = .ok (.ifCond .le 7, 3) := by decide +kernel
theorem dX12_isBeyond_19 : decode cX12_isBeyond 19 = .ok (.iconst 1, 1) := by decide +kernel
theorem dX12_isBeyond_20 : decode cX12_isBeyond 20 = .ok (.goto 4, 3) := by decide +kernel
theorem dX12_isBeyond_23 : decode cX12_isBeyond 23 = .ok (.iconst 0, 1) := by decide +kernel
theorem dX12_isBeyond_24 : decode cX12_isBeyond 24 = .ok (.ireturn, 1) := by decide +kernel
def F_X12_isBeyond (d : Nat) (v0 : Int32) (v1 : Int32) (v2 : Int32) (h : MH) (u : Nat) (Q : Int32 → MH → Prop) : Prop :=
  if v0 < 0 then
    nz 1 ∧ Q 1 h
  else
    if v1 < 0 then
      nz 1 ∧ Q 1 h
    else
      if (lg_cmp ((v0.toInt64) + (v1.toInt64)) (v2.toInt64)) ≤ 0 then
        nz 0 ∧ Q 0 h
      else
        nz 1 ∧ Q 1 h
set_option maxRecDepth 20000 in
theorem E_X12_isBeyond {d : Nat} {v0 : Int32} {v1 : Int32} {v2 : Int32} {h : MH} {u : Nat} {Q : Int32 → MH → Prop} (H : F_X12_isBeyond d v0 v1 v2 h u Q) : T u_X12_isBeyond d 0 [some (jI v0), some (jI v1), some (jI v2)] [] h u (qI Q) := by
  unfold F_X12_isBeyond at H
  refine T_iload_n (pc := 0) dX12_isBeyond_0 rfl rfl ?_
  refine T_if_lt (pc := 1) (tgt := 19) dX12_isBeyond_1 (by decide) (fun hc => ?_) (fun hc => ?_)
  · rw [if_pos hc] at H
    refine T_iconst (pc := 19) (v := 1) dX12_isBeyond_19 (by decide) ?_
    refine T_goto (pc := 20) (tgt := 24) dX12_isBeyond_20 (by decide) ?_
    exact T_ireturn (pc := 24) rfl (nz_nar H.1) dX12_isBeyond_24 H.2
  · rw [if_neg hc] at H
    refine T_iload_n (pc := 4) dX12_isBeyond_4 rfl rfl ?_
    refine T_if_lt (pc := 5) (tgt := 19) dX12_isBeyond_5 (by decide) (fun hc => ?_) (fun hc => ?_)
    · rw [if_pos hc] at H
      refine T_iconst (pc := 19) (v := 1) dX12_isBeyond_19 (by decide) ?_
      refine T_goto (pc := 20) (tgt := 24) dX12_isBeyond_20 (by decide) ?_
      exact T_ireturn (pc := 24) rfl (nz_nar H.1) dX12_isBeyond_24 H.2
    · rw [if_neg hc] at H
      refine T_iload_n (pc := 8) dX12_isBeyond_8 rfl rfl ?_
      refine T_i2l (pc := 9) dX12_isBeyond_9 ?_
      refine T_iload_n (pc := 10) dX12_isBeyond_10 rfl rfl ?_
      refine T_i2l (pc := 11) dX12_isBeyond_11 ?_
      refine T_ladd (pc := 12) dX12_isBeyond_12 ?_
      refine T_iload_n (pc := 13) dX12_isBeyond_13 rfl rfl ?_
      refine T_i2l (pc := 14) dX12_isBeyond_14 ?_
      refine T_lcmp (pc := 15) dX12_isBeyond_15 ?_
      refine T_if_le (pc := 16) (tgt := 23) dX12_isBeyond_16 (by decide) (fun hc => ?_) (fun hc => ?_)
      · rw [if_pos hc] at H
        refine T_iconst (pc := 23) (v := 0) dX12_isBeyond_23 (by decide) ?_
        exact T_ireturn (pc := 24) rfl (nz_nar H.1) dX12_isBeyond_24 H.2
      · rw [if_neg hc] at H
        refine T_iconst (pc := 19) (v := 1) dX12_isBeyond_19 (by decide) ?_
        refine T_goto (pc := 20) (tgt := 24) dX12_isBeyond_20 (by decide) ?_
        exact T_ireturn (pc := 24) rfl (nz_nar H.1) dX12_isBeyond_24 H.2
theorem I_X12_isBeyond {d : Nat} {v0 : Int32} {v1 : Int32} {v2 : Int32} {h : MH} {u : Nat} {K : Int32 → MH → Nat → Prop} (u1 : Nat) (hu : u1 ≤ u) (H : F_X12_isBeyond d v0 v1 v2 h u1 (fun x h2 => K x h2 (u - u1))) : iI d u_X12_isBeyond [jI v0, jI v1, jI v2] h u K := inv.of u1 hu (Ct.of (by decide +kernel) rfl (Nat.le_of_ble_eq_true rfl) rfl (E_X12_isBeyond H))
theorem dX12_copy_0 : decode cX12_copy 0 = .ok (.aload_n 0, 1) := by decide +kernel
theorem dX12_copy_1 : decode cX12_copy 1 = .ok (.iload_n 1, 1) := by decide +kernel
theorem dX12_copy_2 : decode cX12_copy 2 = .ok (.invokevirtual 170, 3) := by decide +kernel
theorem dX12_copy_5 : decode cX12_copy 5 = .ok (.ifCond .eq 11, 3) := by decide +kernel
theorem dX12_copy_8 : decode cX12_copy 8 = .ok (.aload_n 0, 1) := by decide +kernel
theorem dX12_copy_9 : decode cX12_copy 9 = .ok (.iload_n 3, 1) := by decide +kernel
theorem dX12_copy_10 : decode cX12_copy 10 = .ok (.invokevirtual 170, 3) := by decide +kernel
theorem dX12_copy_13 : decode cX12_copy 13 = .ok (.ifCond .ne 5, 3) := by decide +kernel
theorem dX12_copy_16 : decode cX12_copy 16 = .ok (.iconst (-1), 1) := by decide +kernel
theorem dX12_copy_17 : decode cX12_copy 17 = .ok (.ireturn, 1) := by decide +kernel
theorem dX12_copy_18 : decode cX12_copy 18 = .ok (.aload_n 0, 1) := by decide +kernel
theorem dX12_copy_19 : decode cX12_copy 19 = .ok (.getfield 7, 3) := by decide +kernel
theorem dX12_copy_22 : decode cX12_copy 22 = .ok (.iload_n 1, 1) := by decide +kernel
theorem dX12_copy_23 : decode cX12_copy 23 = .ok (.iaload, 1) := by decide +kernel
theorem dX12_copy_24 : decode cX12_copy 24 = .ok (.aload_n 0, 1) := by decide +kernel
theorem dX12_copy_25 : decode cX12_copy 25 = .ok (.getfield 7, 3) := by decide +kernel
theorem dX12_copy_28 : decode cX12_copy 28 = .ok (.iload_n 3, 1) := by decide +kernel
theorem dX12_copy_29 : decode cX12_copy 29 = .ok (.iaload, 1) := by decide +kernel
theorem dX12_copy_30 : decode cX12_copy 30 = .ok (.if_icmp .ne 12, 3) := by decide +kernel
theorem dX12_copy_33 : decode cX12_copy 33 = .ok (.aload_n 0, 1) := by decide +kernel
theorem dX12_copy_34 : decode cX12_copy 34 = .ok (.getfield 16, 3) := by decide +kernel
theorem dX12_copy_37 : decode cX12_copy 37 = .ok (.iload_n 3, 1) := by decide +kernel
theorem dX12_copy_38 : decode cX12_copy 38 = .ok (.baload, 1) := by decide +kernel
theorem dX12_copy_39 : decode cX12_copy 39 = .ok (.ifCond .eq 6, 3) := by decide +kernel
theorem dX12_copy_42 : decode cX12_copy 42 = .ok (.bipush (-3), 2) := by decide +kernel
theorem dX12_copy_44 : decode cX12_copy 44 = .ok (.ireturn, 1) := by decide +kernel
theorem dX12_copy_45 : decode cX12_copy 45 = .ok (.iload_n 2, 1) := by decide +kernel
theorem dX12_copy_46 : decode cX12_copy 46 = .ok (.iload 5, 2) := by decide +kernel
theorem dX12_copy_48 : decode cX12_copy 48 = .ok (.aload_n 0, 1) := by decide +kernel
theorem dX12_copy_49 : decode cX12_copy 49 = .ok (.getfield 13, 3) := by decide +kernel
theorem dX12_copy_52 : decode cX12_copy 52 = .ok (.iload_n 1, 1) := by decide +kernel
theorem dX12_copy_53 : decode cX12_copy 53 = .ok (.iaload, 1) := by decide +kernel
theorem dX12_copy_54 : decode cX12_copy 54 = .ok (.invokestatic 193, 3) := by decide +kernel
theorem dX12_copy_57 : decode cX12_copy 57 = .ok (.ifCond .ne 19, 3) := by decide +kernel
theorem dX12_copy_60 : decode cX12_copy 60 = .ok (.iload 4, 2) := by decide +kernel
theorem dX12_copy_62 : decode cX12_copy 62 = .ok (.iload 5, 2) := by decide +kernel
theorem dX12_copy_64 : decode cX12_copy 64 = .ok (.aload_n 0, 1) := by decide +kernel
theorem dX12_copy_65 : decode cX12_copy 65 = .ok (.getfield 13, 3) := by decide +kernel
theorem dX12_copy_68 : decode cX12_copy 68 = .ok (.iload_n 3, 1) := by decide +kernel
theorem dX12_copy_69 : decode cX12_copy 69 = .ok (.iaload, 1) := by decide +kernel
theorem dX12_copy_70 : decode cX12_copy 70 = .ok (.invokestatic 193, 3) := by decide +kernel
theorem dX12_copy_73 : decode cX12_copy 73 = .ok (.ifCond .eq 9, 3) := by decide +kernel
theorem dX12_copy_76 : decode cX12_copy 76 = .ok (.aload_n 0, 1) := by decide +kernel
theorem dX12_copy_77 : decode cX12_copy 77 = .ok (.iconst 2, 1) := by decide +kernel
theorem dX12_copy_78 : decode cX12_copy 78 = .ok (.invokevirtual 166, 3) := by decide +kernel
theorem dX12_copy_81 : decode cX12_copy 81 = .ok (.ireturn, 1) := by decide +kernel
theorem dX12_copy_82 : decode cX12_copy 82 = .ok (.iconst 0, 1) := by decide +kernel
theorem dX12_copy_83 : decode cX12_copy 83 = .ok (.istore 6, 2) := by decide +kernel
theorem dX12_copy_85 : decode cX12_copy 85 = .ok (.iload 6, 2) := by decide +kernel
theorem dX12_copy_87 : decode cX12_copy 87 = .ok (.iload 5, 2) := by decide +kernel
theorem dX12_copy_89 : decode cX12_copy 89 = .ok (.if_icmp .ge 30, 3) := by decide +kernel
theorem dX12_copy_92 : decode cX12_copy 92 = .ok (.aload_n 0, 1) := by decide +kernel
theorem dX12_copy_93 : decode cX12_copy 93 = .ok (.getfield 24, 3) := by decide +kernel
theorem dX12_copy_96 : decode cX12_copy 96 = .ok (.iload 6, 2) := by decide +kernel
theorem dX12_copy_98 : decode cX12_copy 98 = .ok (.aload_n 0, 1) := by decide +kernel
theorem dX12_copy_99 : decode cX12_copy 99 = .ok (.getfield 20, 3) := by decide +kernel
theorem dX12_copy_102 : decode cX12_copy 102 = .ok (.bipush 20, 2) := by decide +kernel
theorem dX12_copy_104 : decode cX12_copy 104 = .ok (.iload_n 1, 1) := by decide +kernel
theorem dX12_copy_105 : decode cX12_copy 105 = .ok (.imul, 1) := by decide +kernel
theorem dX12_copy_106 : decode cX12_copy 106 = .ok (.iload_n 2, 1) := by decide +kernel
theorem dX12_copy_107 : decode cX12_copy 107 = .ok (.iadd, 1) := by decide +kernel
theorem dX12_copy_108 : decode cX12_copy 108 = .ok (.iload 6, 2) := by decide +kernel
theorem dX12_copy_110 : decode cX12_copy 110 = .ok (.iadd, 1) := by decide +kernel
theorem dX12_copy_111 : decode cX12_copy 111 = .ok (.laload, 1) := by decide +kernel
theorem dX12_copy_112 : decode cX12_copy 112 = .ok (.lastore, 1) := by decide +kernel
theorem dX12_copy_113 : decode cX12_copy 113 = .ok (.iinc 6 1, 3) := by decide +kernel
theorem dX12_copy_116 : decode cX12_copy 116 = .ok (.goto (-31), 3) := by decide +kernel
theorem dX12_copy_119 : decode cX12_copy 119 = .ok (.iconst 0, 1) := by decide +kernel
theorem dX12_copy_120 : decode cX12_copy 120 = .ok (.istore 6, 2) := by decide +kernel
theorem dX12_copy_122 : decode cX12_copy 122 = .ok (.iload 6, 2) := by decide +kernel
theorem dX12_copy_124 : decode cX12_copy 124 = .ok (.iload 5, 2) := by decide +kernel
theorem dX12_copy_126 : decode cX12_copy 126 = .ok (.if_icmp .ge 31, 3) := by decide +kernel
theorem dX12_copy_129 : decode cX12_copy 129 = .ok (.aload_n 0, 1) := by decide +kernel
theorem dX12_copy_130 : decode cX12_copy 130 = .ok (.getfield 20, 3) := by decide +kernel
theorem dX12_copy_133 : decode cX12_copy 133 = .ok (.bipush 20, 2) := by decide +kernel
theorem dX12_copy_135 : decode cX12_copy 135 = .ok (.iload_n 3, 1) := by decide +kernel
theorem dX12_copy_136 : decode cX12_copy 136 = .ok (.imul, 1) := by decide +kernel
theorem dX12_copy_137 : decode cX12_copy 137 = .ok (.iload 4, 2) := by decide +kernel
theorem dX12_copy_139 : decode cX12_copy 139 = .ok (.iadd, 1) := by decide +kernel
theorem dX12_copy_140 : decode cX12_copy 140 = .ok (.iload 6, 2) := by decide +kernel
theorem dX12_copy_142 : decode cX12_copy 142 = .ok (.iadd, 1) := by decide +kernel
theorem dX12_copy_143 : decode cX12_copy 143 = .ok (.aload_n 0, 1) := by decide +kernel
theorem dX12_copy_144 : decode cX12_copy 144 = .ok (.getfield 24, 3) := by decide +kernel
theorem dX12_copy_147 : decode cX12_copy 147 = .ok (.iload 6, 2) := by decide +kernel
theorem dX12_copy_149 : decode cX12_copy 149 = .ok (.laload, 1) := by decide +kernel
theorem dX12_copy_150 : decode cX12_copy 150 = .ok (.lastore, 1) := by decide +kernel
theorem dX12_copy_151 : decode cX12_copy 151 = .ok (.iinc 6 1, 3) := by decide +kernel
theorem dX12_copy_154 : decode cX12_copy 154 = .ok (.goto (-32), 3) := by decide +kernel
theorem dX12_copy_157 : decode cX12_copy 157 = .ok (.iload 5, 2) := by decide +kernel
theorem dX12_copy_159 : decode cX12_copy 159 = .ok (.ireturn, 1) := by decide +kernel
def L_X12_copy_85 (d : Nat) (v0 : Option Nm) (v1 : Int32) (v2 : Int32) (v3 : Int32) (v4 : Int32) (v5 : Int32) (v6 : Int32) (h : MH) (u : Nat) (Q : Int32 → MH → Prop) : Prop := T u_X12_copy (d + 1) 85 [some (jR v0), some (jI v1), some (jI v2), some (jI v3), some (jI v4), some (jI v5), some (jI v6)] [] h u (qI Q)
def L_X12_copy_122 (d : Nat) (v0 : Option Nm) (v3 : Int32) (v4 : Int32) (v5 : Int32) (v6 : Int32) (h : MH) (u : Nat) (Q : Int32 → MH → Prop) : Prop := T u_X12_copy (d + 1) 122 [some (jR v0), none, none, some (jI v3), some (jI v4), some (jI v5), some (jI v6)] [] h u (qI Q)
def F_X12_copy (d : Nat) (v0 : Option Nm) (v1 : Int32) (v2 : Int32) (v3 : Int32) (v4 : Int32) (v5 : Int32) (h : MH) (u : Nat) (Q : Int32 → MH → Prop) : Prop :=
  rc h v0 11 ∧ iI d u_X12_isRow [jR v0, jI v1] h u fun x1 h u =>
  if x1 = 0 then
    Q (-1) h
  else
    rc h v0 11 ∧ iI d u_X12_isRow [jR v0, jI v3] h u fun x2 h u =>
    if x2 = 0 then
      Q (-1) h
    else
      gR h v0 11 4 fun x3 =>
      aI .int h x3 v1 fun x4 =>
      gR h v0 11 4 fun x5 =>
      aI .int h x5 v3 fun x6 =>
      if x4 = x6 then
        gR h v0 11 6 fun x7 =>
        aI .boolean h x7 v3 fun x8 =>
        if x8 = 0 then
          gR h v0 11 5 fun x9 =>
          aI .int h x9 v1 fun x10 =>
          iI d u_X12_isBeyond [jI v2, jI v5, jI x10] h u fun x11 h u =>
          if x11 = 0 then
            gR h v0 11 5 fun x13 =>
            aI .int h x13 v3 fun x14 =>
            iI d u_X12_isBeyond [jI v4, jI v5, jI x14] h u fun x15 h u =>
            if x15 = 0 then
              L_X12_copy_85 d v0 v1 v2 v3 v4 v5 0 h u Q
            else
              rc h v0 11 ∧ iI d u_X12_fails [jR v0, jI 2] h u fun x16 h u =>
              Q x16 h
          else
            rc h v0 11 ∧ iI d u_X12_fails [jR v0, jI 2] h u fun x12 h u =>
            Q x12 h
        else
          Q (-3) h
      else
        Q (-3) h
set_option maxRecDepth 20000 in
theorem E_X12_copy {d : Nat} {v0 : Option Nm} {v1 : Int32} {v2 : Int32} {v3 : Int32} {v4 : Int32} {v5 : Int32} {h : MH} {u : Nat} {Q : Int32 → MH → Prop} (H : F_X12_copy d v0 v1 v2 v3 v4 v5 h u Q) : T u_X12_copy (d + 1) 0 [some (jR v0), some (jI v1), some (jI v2), some (jI v3), some (jI v4), some (jI v5), none] [] h u (qI Q) := by
  unfold F_X12_copy at H
  refine T_aload_n (pc := 0) dX12_copy_0 rfl rfl ?_
  refine T_iload_n (pc := 1) dX12_copy_1 rfl rfl ?_
  obtain ⟨H0, H⟩ := H
  refine T_iV (pc := 2) (ci := 11) (av := [jI v1]) (rest := []) (o := v0) dX12_copy_2 mf_X12_isRow c_5_102 c_5_104 pr_X12_isRow rfl rfl (Nat.le_of_ble_eq_true rfl) rfl H0 (iI_k (iI_mono (fun x1 h u H => ?_) H))
  refine T_if_eq (pc := 5) (tgt := 16) dX12_copy_5 (by decide) (fun hc => ?_) (fun hc => ?_)
  · rw [if_pos hc] at H
    refine T_iconst (pc := 16) (v := (-1)) dX12_copy_16 (by decide) ?_
    exact T_ireturn (pc := 17) rfl rfl dX12_copy_17 H
  · rw [if_neg hc] at H
    refine T_aload_n (pc := 8) dX12_copy_8 rfl rfl ?_
    refine T_iload_n (pc := 9) dX12_copy_9 rfl rfl ?_
    obtain ⟨H0, H⟩ := H
    refine T_iV (pc := 10) (ci := 11) (av := [jI v3]) (rest := []) (o := v0) dX12_copy_10 mf_X12_isRow c_5_102 c_5_104 pr_X12_isRow rfl rfl (Nat.le_of_ble_eq_true rfl) rfl H0 (iI_k (iI_mono (fun x2 h u H => ?_) H))
    refine T_if_ne (pc := 13) (tgt := 18) dX12_copy_13 (by decide) (fun hc => ?_) (fun hc => ?_)
    · rw [if_neg hc] at H
      refine T_aload_n (pc := 18) dX12_copy_18 rfl rfl ?_
      refine T_gR (pc := 19) fa_X12_7 dX12_copy_19 (gR_mono (fun x3 H => ?_) H)
      refine T_iload_n (pc := 22) dX12_copy_22 rfl rfl ?_
      refine T_aI (pc := 23) dX12_copy_23 (aI_mono (fun x4 H => ?_) H)
      refine T_aload_n (pc := 24) dX12_copy_24 rfl rfl ?_
      refine T_gR (pc := 25) fa_X12_7 dX12_copy_25 (gR_mono (fun x5 H => ?_) H)
      refine T_iload_n (pc := 28) dX12_copy_28 rfl rfl ?_
      refine T_aI (pc := 29) dX12_copy_29 (aI_mono (fun x6 H => ?_) H)
      refine T_icmp_ne (pc := 30) (tgt := 42) dX12_copy_30 (by decide) (fun hc => ?_) (fun hc => ?_)
      · rw [if_neg hc] at H
        refine T_bipush (pc := 42) (v := (-3)) dX12_copy_42 (by decide) ?_
        exact T_ireturn (pc := 44) rfl rfl dX12_copy_44 H
      · rw [if_pos hc] at H
        refine T_aload_n (pc := 33) dX12_copy_33 rfl rfl ?_
        refine T_gR (pc := 34) fa_X12_16 dX12_copy_34 (gR_mono (fun x7 H => ?_) H)
        refine T_iload_n (pc := 37) dX12_copy_37 rfl rfl ?_
        refine T_aZ (pc := 38) dX12_copy_38 (aI_mono (fun x8 H => ?_) H)
        refine T_if_eq (pc := 39) (tgt := 45) dX12_copy_39 (by decide) (fun hc => ?_) (fun hc => ?_)
        · rw [if_pos hc] at H
          refine T_iload_n (pc := 45) dX12_copy_45 rfl rfl ?_
          refine T_iload (pc := 46) dX12_copy_46 rfl ?_
          refine T_aload_n (pc := 48) dX12_copy_48 rfl rfl ?_
          refine T_gR (pc := 49) fa_X12_13 dX12_copy_49 (gR_mono (fun x9 H => ?_) H)
          refine T_iload_n (pc := 52) dX12_copy_52 rfl rfl ?_
          refine T_aI (pc := 53) dX12_copy_53 (aI_mono (fun x10 H => ?_) H)
          refine T_invS (pc := 54) (av := [jI v2, jI v5, jI x10]) (rest := []) dX12_copy_54 mf_X12_isBeyond c_5_171 c_5_172 rfl (Nat.le_of_ble_eq_true rfl) rfl (iI_k (iI_mono (fun x11 h u H => ?_) H))
          refine T_if_ne (pc := 57) (tgt := 76) dX12_copy_57 (by decide) (fun hc => ?_) (fun hc => ?_)
          · rw [if_neg hc] at H
            refine T_aload_n (pc := 76) dX12_copy_76 rfl rfl ?_
            refine T_iconst (pc := 77) (v := 2) dX12_copy_77 (by decide) ?_
            obtain ⟨H0, H⟩ := H
            refine T_iV (pc := 78) (ci := 11) (av := [jI 2]) (rest := []) (o := v0) dX12_copy_78 mf_X12_fails c_5_89 c_5_91 pr_X12_fails rfl rfl (Nat.le_of_ble_eq_true rfl) rfl H0 (iI_k (iI_mono (fun x12 h u H => ?_) H))
            exact T_ireturn (pc := 81) rfl rfl dX12_copy_81 H
          · rw [if_pos hc] at H
            refine T_iload (pc := 60) dX12_copy_60 rfl ?_
            refine T_iload (pc := 62) dX12_copy_62 rfl ?_
            refine T_aload_n (pc := 64) dX12_copy_64 rfl rfl ?_
            refine T_gR (pc := 65) fa_X12_13 dX12_copy_65 (gR_mono (fun x13 H => ?_) H)
            refine T_iload_n (pc := 68) dX12_copy_68 rfl rfl ?_
            refine T_aI (pc := 69) dX12_copy_69 (aI_mono (fun x14 H => ?_) H)
            refine T_invS (pc := 70) (av := [jI v4, jI v5, jI x14]) (rest := []) dX12_copy_70 mf_X12_isBeyond c_5_171 c_5_172 rfl (Nat.le_of_ble_eq_true rfl) rfl (iI_k (iI_mono (fun x15 h u H => ?_) H))
            refine T_if_eq (pc := 73) (tgt := 82) dX12_copy_73 (by decide) (fun hc => ?_) (fun hc => ?_)
            · rw [if_pos hc] at H
              refine T_iconst (pc := 82) (v := 0) dX12_copy_82 (by decide) ?_
              refine T_istore (pc := 83) (ls2 := [some (jR v0), some (jI v1), some (jI v2), some (jI v3), some (jI v4), some (jI v5), some (jI 0)]) dX12_copy_83 (Nat.le_of_ble_eq_true rfl) rfl ?_
              exact T.forget H ⟨rfl, rfl, rfl, rfl, rfl, rfl, rfl, trivial⟩
            · rw [if_neg hc] at H
              refine T_aload_n (pc := 76) dX12_copy_76 rfl rfl ?_
              refine T_iconst (pc := 77) (v := 2) dX12_copy_77 (by decide) ?_
              obtain ⟨H0, H⟩ := H
              refine T_iV (pc := 78) (ci := 11) (av := [jI 2]) (rest := []) (o := v0) dX12_copy_78 mf_X12_fails c_5_89 c_5_91 pr_X12_fails rfl rfl (Nat.le_of_ble_eq_true rfl) rfl H0 (iI_k (iI_mono (fun x16 h u H => ?_) H))
              exact T_ireturn (pc := 81) rfl rfl dX12_copy_81 H
        · rw [if_neg hc] at H
          refine T_bipush (pc := 42) (v := (-3)) dX12_copy_42 (by decide) ?_
          exact T_ireturn (pc := 44) rfl rfl dX12_copy_44 H
    · rw [if_pos hc] at H
      refine T_iconst (pc := 16) (v := (-1)) dX12_copy_16 (by decide) ?_
      exact T_ireturn (pc := 17) rfl rfl dX12_copy_17 H
def F_X12_copy_85 (d : Nat) (v0 : Option Nm) (v1 : Int32) (v2 : Int32) (v3 : Int32) (v4 : Int32) (v5 : Int32) (v6 : Int32) (h : MH) (u : Nat) (Q : Int32 → MH → Prop) : Prop :=
  if v5 ≤ v6 then
    L_X12_copy_122 d v0 v3 v4 v5 0 h u Q
  else
    gR h v0 11 8 fun x1 =>
    gR h v0 11 7 fun x2 =>
    aL h x2 (((20 * v1) + v2) + v6) fun x3 =>
    sV .long h x1 v6 (jL x3) fun h =>
    L_X12_copy_85 d v0 v1 v2 v3 v4 v5 (v6 + 1) h u Q
set_option maxRecDepth 20000 in
theorem E_X12_copy_85 {d : Nat} {v0 : Option Nm} {v1 : Int32} {v2 : Int32} {v3 : Int32} {v4 : Int32} {v5 : Int32} {v6 : Int32} {h : MH} {u : Nat} {Q : Int32 → MH → Prop} (H : F_X12_copy_85 d v0 v1 v2 v3 v4 v5 v6 h u Q) : T u_X12_copy (d + 1) 85 [some (jR v0), some (jI v1), some (jI v2), some (jI v3), some (jI v4), some (jI v5), some (jI v6)] [] h u (qI Q) := by
  unfold F_X12_copy_85 at H
  refine T_iload (pc := 85) dX12_copy_85 rfl ?_
  refine T_iload (pc := 87) dX12_copy_87 rfl ?_
  refine T_icmp_ge (pc := 89) (tgt := 119) dX12_copy_89 (by decide) (fun hc => ?_) (fun hc => ?_)
  · rw [if_pos hc] at H
    refine T_iconst (pc := 119) (v := 0) dX12_copy_119 (by decide) ?_
    refine T_istore (pc := 120) (ls2 := [some (jR v0), some (jI v1), some (jI v2), some (jI v3), some (jI v4), some (jI v5), some (jI 0)]) dX12_copy_120 (Nat.le_of_ble_eq_true rfl) rfl ?_
    exact T.forget H ⟨rfl, rfl, rfl, rfl, rfl, trivial⟩
  · rw [if_neg hc] at H
    refine T_aload_n (pc := 92) dX12_copy_92 rfl rfl ?_
    refine T_gR (pc := 93) fa_X12_24 dX12_copy_93 (gR_mono (fun x1 H => ?_) H)
    refine T_iload (pc := 96) dX12_copy_96 rfl ?_
    refine T_aload_n (pc := 98) dX12_copy_98 rfl rfl ?_
    refine T_gR (pc := 99) fa_X12_20 dX12_copy_99 (gR_mono (fun x2 H => ?_) H)
    refine T_bipush (pc := 102) (v := 20) dX12_copy_102 (by decide) ?_
    refine T_iload_n (pc := 104) dX12_copy_104 rfl rfl ?_
    refine T_imul (pc := 105) dX12_copy_105 ?_
    refine T_iload_n (pc := 106) dX12_copy_106 rfl rfl ?_
    refine T_iadd (pc := 107) dX12_copy_107 ?_
    refine T_iload (pc := 108) dX12_copy_108 rfl ?_
    refine T_iadd (pc := 110) dX12_copy_110 ?_
    refine T_aL (pc := 111) dX12_copy_111 (aL_mono (fun x3 H => ?_) H)
    refine T_sL (pc := 112) dX12_copy_112 (sV_mono (fun h H => ?_) H)
    refine T_iinc (pc := 113) (v := v6 + 1) (ls2 := [some (jR v0), some (jI v1), some (jI v2), some (jI v3), some (jI v4), some (jI v5), some (jI (v6 + 1))]) dX12_copy_113 rfl rfl (Nat.le_of_ble_eq_true rfl) rfl ?_
    refine T_goto (pc := 116) (tgt := 85) dX12_copy_116 (by decide) ?_
    exact T.forget H ⟨rfl, rfl, rfl, rfl, rfl, rfl, rfl, trivial⟩
def F_X12_copy_122 (d : Nat) (v0 : Option Nm) (v3 : Int32) (v4 : Int32) (v5 : Int32) (v6 : Int32) (h : MH) (u : Nat) (Q : Int32 → MH → Prop) : Prop :=
  if v5 ≤ v6 then
    Q v5 h
  else
    gR h v0 11 7 fun x1 =>
    gR h v0 11 8 fun x2 =>
    aL h x2 v6 fun x3 =>
    sV .long h x1 (((20 * v3) + v4) + v6) (jL x3) fun h =>
    L_X12_copy_122 d v0 v3 v4 v5 (v6 + 1) h u Q
set_option maxRecDepth 20000 in
theorem E_X12_copy_122 {d : Nat} {v0 : Option Nm} {v3 : Int32} {v4 : Int32} {v5 : Int32} {v6 : Int32} {h : MH} {u : Nat} {Q : Int32 → MH → Prop} (H : F_X12_copy_122 d v0 v3 v4 v5 v6 h u Q) : T u_X12_copy (d + 1) 122 [some (jR v0), none, none, some (jI v3), some (jI v4), some (jI v5), some (jI v6)] [] h u (qI Q) := by
  unfold F_X12_copy_122 at H
  refine T_iload (pc := 122) dX12_copy_122 rfl ?_
  refine T_iload (pc := 124) dX12_copy_124 rfl ?_
  refine T_icmp_ge (pc := 126) (tgt := 157) dX12_copy_126 (by decide) (fun hc => ?_) (fun hc => ?_)
  · rw [if_pos hc] at H
    refine T_iload (pc := 157) dX12_copy_157 rfl ?_
    exact T_ireturn (pc := 159) rfl rfl dX12_copy_159 H
  · rw [if_neg hc] at H
    refine T_aload_n (pc := 129) dX12_copy_129 rfl rfl ?_
    refine T_gR (pc := 130) fa_X12_20 dX12_copy_130 (gR_mono (fun x1 H => ?_) H)
    refine T_bipush (pc := 133) (v := 20) dX12_copy_133 (by decide) ?_
    refine T_iload_n (pc := 135) dX12_copy_135 rfl rfl ?_
    refine T_imul (pc := 136) dX12_copy_136 ?_
    refine T_iload (pc := 137) dX12_copy_137 rfl ?_
    refine T_iadd (pc := 139) dX12_copy_139 ?_
    refine T_iload (pc := 140) dX12_copy_140 rfl ?_
    refine T_iadd (pc := 142) dX12_copy_142 ?_
    refine T_aload_n (pc := 143) dX12_copy_143 rfl rfl ?_
    refine T_gR (pc := 144) fa_X12_24 dX12_copy_144 (gR_mono (fun x2 H => ?_) H)
    refine T_iload (pc := 147) dX12_copy_147 rfl ?_
    refine T_aL (pc := 149) dX12_copy_149 (aL_mono (fun x3 H => ?_) H)
    refine T_sL (pc := 150) dX12_copy_150 (sV_mono (fun h H => ?_) H)
    refine T_iinc (pc := 151) (v := v6 + 1) (ls2 := [some (jR v0), none, none, some (jI v3), some (jI v4), some (jI v5), some (jI (v6 + 1))]) dX12_copy_151 rfl rfl (Nat.le_of_ble_eq_true rfl) rfl ?_
    refine T_goto (pc := 154) (tgt := 122) dX12_copy_154 (by decide) ?_
    exact T.forget H ⟨rfl, rfl, rfl, rfl, rfl, trivial⟩
theorem I_X12_copy {d : Nat} {v0 : Option Nm} {v1 : Int32} {v2 : Int32} {v3 : Int32} {v4 : Int32} {v5 : Int32} {h : MH} {u : Nat} {K : Int32 → MH → Nat → Prop} (u1 : Nat) (hu : u1 ≤ u) (H : F_X12_copy d v0 v1 v2 v3 v4 v5 h u1 (fun x h2 => K x h2 (u - u1))) : iI (d + 1) u_X12_copy [jR v0, jI v1, jI v2, jI v3, jI v4, jI v5] h u K := inv.of u1 hu (Ct.of (by decide +kernel) rfl (Nat.le_of_ble_eq_true rfl) rfl (E_X12_copy H))
theorem dX12_twin_0 : decode cX12_twin 0 = .ok (.aload_n 0, 1) := by decide +kernel
theorem dX12_twin_1 : decode cX12_twin 1 = .ok (.iload_n 1, 1) := by decide +kernel
theorem dX12_twin_2 : decode cX12_twin 2 = .ok (.invokevirtual 170, 3) := by decide +kernel
theorem dX12_twin_5 : decode cX12_twin 5 = .ok (.ifCond .ne 5, 3) := by decide +kernel
theorem dX12_twin_8 : decode cX12_twin 8 = .ok (.iconst (-1), 1) := by decide +kernel
theorem dX12_twin_9 : decode cX12_twin 9 = .ok (.ireturn, 1) := by decide +kernel
theorem dX12_twin_10 : decode cX12_twin 10 = .ok (.aload_n 0, 1) := by decide +kernel
theorem dX12_twin_11 : decode cX12_twin 11 = .ok (.getfield 153, 3) := by decide +kernel
theorem dX12_twin_14 : decode cX12_twin 14 = .ok (.bipush 60, 2) := by decide +kernel
theorem dX12_twin_16 : decode cX12_twin 16 = .ok (.if_icmp .ne 8, 3) := by decide +kernel
theorem dX12_twin_19 : decode cX12_twin 19 = .ok (.bipush (-4), 2) := by decide +kernel
theorem dX12_twin_21 : decode cX12_twin 21 = .ok (.goto 8, 3) := by decide +kernel
theorem dX12_twin_24 : decode cX12_twin 24 = .ok (.aload_n 0, 1) := by decide +kernel
theorem dX12_twin_25 : decode cX12_twin 25 = .ok (.iload_n 1, 1) := by decide +kernel
theorem dX12_twin_26 : decode cX12_twin 26 = .ok (.invokevirtual 196, 3) := by decide +kernel
theorem dX12_twin_29 : decode cX12_twin 29 = .ok (.ireturn, 1) := by decide +kernel
def F_X12_twin (d : Nat) (v0 : Option Nm) (v1 : Int32) (h : MH) (u : Nat) (Q : Int32 → MH → Prop) : Prop :=
  rc h v0 11 ∧ iI d u_X12_isRow [jR v0, jI v1] h u fun x1 h u =>
  if x1 = 0 then
    Q (-1) h
  else
    gI h v0 11 3 fun x2 =>
    if x2 = 60 then
      Q (-4) h
    else
      rc h v0 11 ∧ iI d u_X12_twinOf [jR v0, jI v1] h u fun x3 h u =>
      Q x3 h
set_option maxRecDepth 20000 in
theorem E_X12_twin {d : Nat} {v0 : Option Nm} {v1 : Int32} {h : MH} {u : Nat} {Q : Int32 → MH → Prop} (H : F_X12_twin d v0 v1 h u Q) : T u_X12_twin (d + 1) 0 [some (jR v0), some (jI v1)] [] h u (qI Q) := by
  unfold F_X12_twin at H
  refine T_aload_n (pc := 0) dX12_twin_0 rfl rfl ?_
  refine T_iload_n (pc := 1) dX12_twin_1 rfl rfl ?_
  obtain ⟨H0, H⟩ := H
  refine T_iV (pc := 2) (ci := 11) (av := [jI v1]) (rest := []) (o := v0) dX12_twin_2 mf_X12_isRow c_5_102 c_5_104 pr_X12_isRow rfl rfl (Nat.le_of_ble_eq_true rfl) rfl H0 (iI_k (iI_mono (fun x1 h u H => ?_) H))
  refine T_if_ne (pc := 5) (tgt := 10) dX12_twin_5 (by decide) (fun hc => ?_) (fun hc => ?_)
  · rw [if_neg hc] at H
    refine T_aload_n (pc := 10) dX12_twin_10 rfl rfl ?_
    refine T_gI (pc := 11) fa_X12_153 dX12_twin_11 (gI_mono (fun x2 H => ?_) H)
    refine T_bipush (pc := 14) (v := 60) dX12_twin_14 (by decide) ?_
    refine T_icmp_ne (pc := 16) (tgt := 24) dX12_twin_16 (by decide) (fun hc => ?_) (fun hc => ?_)
    · rw [if_neg hc] at H
      refine T_aload_n (pc := 24) dX12_twin_24 rfl rfl ?_
      refine T_iload_n (pc := 25) dX12_twin_25 rfl rfl ?_
      obtain ⟨H0, H⟩ := H
      refine T_iV (pc := 26) (ci := 11) (av := [jI v1]) (rest := []) (o := v0) dX12_twin_26 mf_X12_twinOf c_5_178 c_5_180 pr_X12_twinOf rfl rfl (Nat.le_of_ble_eq_true rfl) rfl H0 (iI_k (iI_mono (fun x3 h u H => ?_) H))
      exact T_ireturn (pc := 29) rfl rfl dX12_twin_29 H
    · rw [if_pos hc] at H
      refine T_bipush (pc := 19) (v := (-4)) dX12_twin_19 (by decide) ?_
      refine T_goto (pc := 21) (tgt := 29) dX12_twin_21 (by decide) ?_
      exact T_ireturn (pc := 29) rfl rfl dX12_twin_29 H
  · rw [if_pos hc] at H
    refine T_iconst (pc := 8) (v := (-1)) dX12_twin_8 (by decide) ?_
    exact T_ireturn (pc := 9) rfl rfl dX12_twin_9 H
theorem I_X12_twin {d : Nat} {v0 : Option Nm} {v1 : Int32} {h : MH} {u : Nat} {K : Int32 → MH → Nat → Prop} (u1 : Nat) (hu : u1 ≤ u) (H : F_X12_twin d v0 v1 h u1 (fun x h2 => K x h2 (u - u1))) : iI (d + 1) u_X12_twin [jR v0, jI v1] h u K := inv.of u1 hu (Ct.of (by decide +kernel) rfl (Nat.le_of_ble_eq_true rfl) rfl (E_X12_twin H))
theorem dX12_isKind_0 : decode cX12_isKind 0 = .ok (.iload_n 1, 1) := by decide +kernel
theorem dX12_isKind_1 : decode cX12_isKind 1 = .ok (.iconst 0, 1) := by decide +kernel
theorem dX12_isKind_2 : decode cX12_isKind 2 = .ok (.aload_n 0, 1) := by decide +kernel
theorem dX12_isKind_3 : decode cX12_isKind 3 = .ok (.getfield 199, 3) := by decide +kernel
theorem dX12_isKind_6 : decode cX12_isKind 6 = .ok (.iconst 1, 1) := by decide +kernel
theorem dX12_isKind_7 : decode cX12_isKind 7 = .ok (.isub, 1) := by decide +kernel
theorem dX12_isKind_8 : decode cX12_isKind 8 = .ok (.invokestatic 156, 3) := by decide +kernel
theorem dX12_isKind_11 : decode cX12_isKind 11 = .ok (.ireturn, 1) := by decide +kernel
def F_X12_isKind (d : Nat) (v0 : Option Nm) (v1 : Int32) (h : MH) (u : Nat) (Q : Int32 → MH → Prop) : Prop :=
  gI h v0 11 9 fun x1 =>
  iI d u_X12_in [jI v1, jI 0, jI (x1 - 1)] h u fun x2 h u =>
  nz x2 ∧ Q x2 h
set_option maxRecDepth 20000 in
theorem E_X12_isKind {d : Nat} {v0 : Option Nm} {v1 : Int32} {h : MH} {u : Nat} {Q : Int32 → MH → Prop} (H : F_X12_isKind d v0 v1 h u Q) : T u_X12_isKind (d + 1) 0 [some (jR v0), some (jI v1)] [] h u (qI Q) := by
  unfold F_X12_isKind at H
  refine T_iload_n (pc := 0) dX12_isKind_0 rfl rfl ?_
  refine T_iconst (pc := 1) (v := 0) dX12_isKind_1 (by decide) ?_
  refine T_aload_n (pc := 2) dX12_isKind_2 rfl rfl ?_
  refine T_gI (pc := 3) fa_X12_199 dX12_isKind_3 (gI_mono (fun x1 H => ?_) H)
  refine T_iconst (pc := 6) (v := 1) dX12_isKind_6 (by decide) ?_
  refine T_isub (pc := 7) dX12_isKind_7 ?_
  refine T_invS (pc := 8) (av := [jI v1, jI 0, jI (x1 - 1)]) (rest := []) dX12_isKind_8 mf_X12_in c_5_86 c_5_87 rfl (Nat.le_of_ble_eq_true rfl) rfl (iI_k (iI_mono (fun x2 h u H => ?_) H))
  exact T_ireturn (pc := 11) rfl (nz_nar H.1) dX12_isKind_11 H.2
theorem I_X12_isKind {d : Nat} {v0 : Option Nm} {v1 : Int32} {h : MH} {u : Nat} {K : Int32 → MH → Nat → Prop} (u1 : Nat) (hu : u1 ≤ u) (H : F_X12_isKind d v0 v1 h u1 (fun x h2 => K x h2 (u - u1))) : iI (d + 1) u_X12_isKind [jR v0, jI v1] h u K := inv.of u1 hu (Ct.of (by decide +kernel) rfl (Nat.le_of_ble_eq_true rfl) rfl (E_X12_isKind H))
theorem dX12_newKind_0 : decode cX12_newKind 0 = .ok (.aload_n 0, 1) := by decide +kernel
theorem dX12_newKind_1 : decode cX12_newKind 1 = .ok (.getfield 199, 3) := by decide +kernel
theorem dX12_newKind_4 : decode cX12_newKind 4 = .ok (.bipush 16, 2) := by decide +kernel
theorem dX12_newKind_6 : decode cX12_newKind 6 = .ok (.if_icmp .ne 6, 3) := by decide +kernel
theorem dX12_newKind_9 : decode cX12_newKind 9 = .ok (.bipush (-4), 2) := by decide +kernel
theorem dX12_newKind_11 : decode cX12_newKind 11 = .ok (.ireturn, 1) := by decide +kernel
theorem dX12_newKind_12 : decode cX12_newKind 12 = .ok (.aload_n 0, 1) := by decide +kernel
theorem dX12_newKind_13 : decode cX12_newKind 13 = .ok (.getfield 27, 3) := by decide +kernel
theorem dX12_newKind_16 : decode cX12_newKind 16 = .ok (.aload_n 0, 1) := by decide +kernel
theorem dX12_newKind_17 : decode cX12_newKind 17 = .ok (.getfield 199, 3) := by decide +kernel
theorem dX12_newKind_20 : decode cX12_newKind 20 = .ok (.iload_n 1, 1) := by decide +kernel
theorem dX12_newKind_21 : decode cX12_newKind 21 = .ok (.bastore, 1) := by decide +kernel
theorem dX12_newKind_22 : decode cX12_newKind 22 = .ok (.aload_n 0, 1) := by decide +kernel
theorem dX12_newKind_23 : decode cX12_newKind 23 = .ok (.getfield 30, 3) := by decide +kernel
theorem dX12_newKind_26 : decode cX12_newKind 26 = .ok (.aload_n 0, 1) := by decide +kernel
theorem dX12_newKind_27 : decode cX12_newKind 27 = .ok (.getfield 199, 3) := by decide +kernel
theorem dX12_newKind_30 : decode cX12_newKind 30 = .ok (.iload_n 2, 1) := by decide +kernel
theorem dX12_newKind_31 : decode cX12_newKind 31 = .ok (.iastore, 1) := by decide +kernel
theorem dX12_newKind_32 : decode cX12_newKind 32 = .ok (.aload_n 0, 1) := by decide +kernel
theorem dX12_newKind_33 : decode cX12_newKind 33 = .ok (.dup, 1) := by decide +kernel
theorem dX12_newKind_34 : decode cX12_newKind 34 = .ok (.getfield 199, 3) := by decide +kernel
theorem dX12_newKind_37 : decode cX12_newKind 37 = .ok (.iconst 1, 1) := by decide +kernel
theorem dX12_newKind_38 : decode cX12_newKind 38 = .ok (.iadd, 1) := by decide +kernel
theorem dX12_newKind_39 : decode cX12_newKind 39 = .ok (.putfield 199, 3) := by decide +kernel
theorem dX12_newKind_42 : decode cX12_newKind 42 = .ok (.aload_n 0, 1) := by decide +kernel
theorem dX12_newKind_43 : decode cX12_newKind 43 = .ok (.getfield 199, 3) := by decide +kernel
theorem dX12_newKind_46 : decode cX12_newKind 46 = .ok (.iconst 1, 1) := by decide +kernel
theorem dX12_newKind_47 : decode cX12_newKind 47 = .ok (.isub, 1) := by decide +kernel
theorem dX12_newKind_48 : decode cX12_newKind 48 = .ok (.ireturn, 1) := by decide +kernel
def F_X12_newKind (d : Nat) (v0 : Option Nm) (v1 : Int32) (v2 : Int32) (h : MH) (u : Nat) (Q : Int32 → MH → Prop) : Prop :=
  gI h v0 11 9 fun x1 =>
  if x1 = 16 then
    Q (-4) h
  else
    gR h v0 11 10 fun x2 =>
    gI h v0 11 9 fun x3 =>
    sV .boolean h x2 x3 (jI (vp_nar .boolean v1)) fun h =>
    gR h v0 11 11 fun x4 =>
    gI h v0 11 9 fun x5 =>
    sV .int h x4 x5 (jI v2) fun h =>
    gI h v0 11 9 fun x6 =>
    pV h v0 11 9 (jI (x6 + 1)) fun h =>
    gI h v0 11 9 fun x7 =>
    Q (x7 - 1) h
set_option maxRecDepth 20000 in
theorem E_X12_newKind {d : Nat} {v0 : Option Nm} {v1 : Int32} {v2 : Int32} {h : MH} {u : Nat} {Q : Int32 → MH → Prop} (H : F_X12_newKind d v0 v1 v2 h u Q) : T u_X12_newKind d 0 [some (jR v0), some (jI v1), some (jI v2)] [] h u (qI Q) := by
  unfold F_X12_newKind at H
  refine T_aload_n (pc := 0) dX12_newKind_0 rfl rfl ?_
  refine T_gI (pc := 1) fa_X12_199 dX12_newKind_1 (gI_mono (fun x1 H => ?_) H)
  refine T_bipush (pc := 4) (v := 16) dX12_newKind_4 (by decide) ?_
  refine T_icmp_ne (pc := 6) (tgt := 12) dX12_newKind_6 (by decide) (fun hc => ?_) (fun hc => ?_)
  · rw [if_neg hc] at H
    refine T_aload_n (pc := 12) dX12_newKind_12 rfl rfl ?_
    refine T_gR (pc := 13) fa_X12_27 dX12_newKind_13 (gR_mono (fun x2 H => ?_) H)
    refine T_aload_n (pc := 16) dX12_newKind_16 rfl rfl ?_
    refine T_gI (pc := 17) fa_X12_199 dX12_newKind_17 (gI_mono (fun x3 H => ?_) H)
    refine T_iload_n (pc := 20) dX12_newKind_20 rfl rfl ?_
    refine T_sZ (pc := 21) dX12_newKind_21 (sV_mono (fun h H => ?_) H)
    refine T_aload_n (pc := 22) dX12_newKind_22 rfl rfl ?_
    refine T_gR (pc := 23) fa_X12_30 dX12_newKind_23 (gR_mono (fun x4 H => ?_) H)
    refine T_aload_n (pc := 26) dX12_newKind_26 rfl rfl ?_
    refine T_gI (pc := 27) fa_X12_199 dX12_newKind_27 (gI_mono (fun x5 H => ?_) H)
    refine T_iload_n (pc := 30) dX12_newKind_30 rfl rfl ?_
    refine T_sI (pc := 31) dX12_newKind_31 (sV_mono (fun h H => ?_) H)
    refine T_aload_n (pc := 32) dX12_newKind_32 rfl rfl ?_
    refine T_dup (pc := 33) rfl dX12_newKind_33 ?_
    refine T_gI (pc := 34) fa_X12_199 dX12_newKind_34 (gI_mono (fun x6 H => ?_) H)
    refine T_iconst (pc := 37) (v := 1) dX12_newKind_37 (by decide) ?_
    refine T_iadd (pc := 38) dX12_newKind_38 ?_
    refine T_pV (pc := 39) fa_X12_199 dX12_newKind_39 trivial (pV_mono (fun h H => ?_) H)
    refine T_aload_n (pc := 42) dX12_newKind_42 rfl rfl ?_
    refine T_gI (pc := 43) fa_X12_199 dX12_newKind_43 (gI_mono (fun x7 H => ?_) H)
    refine T_iconst (pc := 46) (v := 1) dX12_newKind_46 (by decide) ?_
    refine T_isub (pc := 47) dX12_newKind_47 ?_
    exact T_ireturn (pc := 48) rfl rfl dX12_newKind_48 H
  · rw [if_pos hc] at H
    refine T_bipush (pc := 9) (v := (-4)) dX12_newKind_9 (by decide) ?_
    exact T_ireturn (pc := 11) rfl rfl dX12_newKind_11 H
theorem I_X12_newKind {d : Nat} {v0 : Option Nm} {v1 : Int32} {v2 : Int32} {h : MH} {u : Nat} {K : Int32 → MH → Nat → Prop} (u1 : Nat) (hu : u1 ≤ u) (H : F_X12_newKind d v0 v1 v2 h u1 (fun x h2 => K x h2 (u - u1))) : iI d u_X12_newKind [jR v0, jI v1, jI v2] h u K := inv.of u1 hu (Ct.of (by decide +kernel) rfl (Nat.le_of_ble_eq_true rfl) rfl (E_X12_newKind H))
