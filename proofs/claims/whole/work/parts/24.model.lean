theorem dX12_make_0 : decode cX12_make 0 = .ok (.aload_n 0, 1) := by decide +kernel
theorem dX12_make_1 : decode cX12_make 1 = .ok (.iload_n 1, 1) := by decide +kernel
theorem dX12_make_2 : decode cX12_make 2 = .ok (.invokevirtual 206, 3) := by decide +kernel
theorem dX12_make_5 : decode cX12_make 5 = .ok (.ifCond .ne 5, 3) := by decide +kernel
theorem dX12_make_8 : decode cX12_make 8 = .ok (.iconst (-1), 1) := by decide +kernel
theorem dX12_make_9 : decode cX12_make 9 = .ok (.ireturn, 1) := by decide +kernel
theorem dX12_make_10 : decode cX12_make 10 = .ok (.aload_n 0, 1) := by decide +kernel
theorem dX12_make_11 : decode cX12_make 11 = .ok (.getfield 27, 3) := by decide +kernel
theorem dX12_make_14 : decode cX12_make 14 = .ok (.iload_n 1, 1) := by decide +kernel
theorem dX12_make_15 : decode cX12_make 15 = .ok (.baload, 1) := by decide +kernel
theorem dX12_make_16 : decode cX12_make 16 = .ok (.ifCond .eq 6, 3) := by decide +kernel
theorem dX12_make_19 : decode cX12_make 19 = .ok (.bipush (-3), 2) := by decide +kernel
theorem dX12_make_21 : decode cX12_make 21 = .ok (.ireturn, 1) := by decide +kernel
theorem dX12_make_22 : decode cX12_make 22 = .ok (.aload_n 0, 1) := by decide +kernel
theorem dX12_make_23 : decode cX12_make 23 = .ok (.getfield 215, 3) := by decide +kernel
theorem dX12_make_26 : decode cX12_make 26 = .ok (.sipush 200, 3) := by decide +kernel
theorem dX12_make_29 : decode cX12_make 29 = .ok (.if_icmp .eq 11, 3) := by decide +kernel
theorem dX12_make_32 : decode cX12_make 32 = .ok (.aload_n 0, 1) := by decide +kernel
theorem dX12_make_33 : decode cX12_make 33 = .ok (.iload_n 1, 1) := by decide +kernel
theorem dX12_make_34 : decode cX12_make 34 = .ok (.invokevirtual 250, 3) := by decide +kernel
theorem dX12_make_37 : decode cX12_make 37 = .ok (.ifCond .ne 6, 3) := by decide +kernel
theorem dX12_make_40 : decode cX12_make 40 = .ok (.bipush (-4), 2) := by decide +kernel
theorem dX12_make_42 : decode cX12_make 42 = .ok (.ireturn, 1) := by decide +kernel
theorem dX12_make_43 : decode cX12_make 43 = .ok (.aload_n 0, 1) := by decide +kernel
theorem dX12_make_44 : decode cX12_make 44 = .ok (.iload_n 1, 1) := by decide +kernel
theorem dX12_make_45 : decode cX12_make 45 = .ok (.invokevirtual 225, 3) := by decide +kernel
theorem dX12_make_48 : decode cX12_make 48 = .ok (.istore_n 2, 1) := by decide +kernel
theorem dX12_make_49 : decode cX12_make 49 = .ok (.iconst 0, 1) := by decide +kernel
theorem dX12_make_50 : decode cX12_make 50 = .ok (.istore_n 3, 1) := by decide +kernel
theorem dX12_make_51 : decode cX12_make 51 = .ok (.iload_n 3, 1) := by decide +kernel
theorem dX12_make_52 : decode cX12_make 52 = .ok (.aload_n 0, 1) := by decide +kernel
theorem dX12_make_53 : decode cX12_make 53 = .ok (.getfield 42, 3) := by decide +kernel
theorem dX12_make_56 : decode cX12_make 56 = .ok (.iload_n 2, 1) := by decide +kernel
theorem dX12_make_57 : decode cX12_make 57 = .ok (.iaload, 1) := by decide +kernel
theorem dX12_make_58 : decode cX12_make 58 = .ok (.if_icmp .ge 145, 3) := by decide +kernel
theorem dX12_make_61 : decode cX12_make 61 = .ok (.aload_n 0, 1) := by decide +kernel
theorem dX12_make_62 : decode cX12_make 62 = .ok (.getfield 48, 3) := by decide +kernel
theorem dX12_make_65 : decode cX12_make 65 = .ok (.bipush 8, 2) := by decide +kernel
theorem dX12_make_67 : decode cX12_make 67 = .ok (.iload_n 2, 1) := by decide +kernel
theorem dX12_make_68 : decode cX12_make 68 = .ok (.imul, 1) := by decide +kernel
theorem dX12_make_69 : decode cX12_make 69 = .ok (.iload_n 3, 1) := by decide +kernel
theorem dX12_make_70 : decode cX12_make 70 = .ok (.iadd, 1) := by decide +kernel
theorem dX12_make_71 : decode cX12_make 71 = .ok (.iaload, 1) := by decide +kernel
theorem dX12_make_72 : decode cX12_make 72 = .ok (.istore 4, 2) := by decide +kernel
theorem dX12_make_74 : decode cX12_make 74 = .ok (.aload_n 0, 1) := by decide +kernel
theorem dX12_make_75 : decode cX12_make 75 = .ok (.getfield 60, 3) := by decide +kernel
theorem dX12_make_78 : decode cX12_make 78 = .ok (.iload_n 3, 1) := by decide +kernel
theorem dX12_make_79 : decode cX12_make 79 = .ok (.iaload, 1) := by decide +kernel
theorem dX12_make_80 : decode cX12_make 80 = .ok (.istore 5, 2) := by decide +kernel
theorem dX12_make_82 : decode cX12_make 82 = .ok (.iload 4, 2) := by decide +kernel
theorem dX12_make_84 : decode cX12_make 84 = .ok (.bipush 8, 2) := by decide +kernel
theorem dX12_make_86 : decode cX12_make 86 = .ok (.if_icmp .ge 16, 3) := by decide +kernel
theorem dX12_make_89 : decode cX12_make 89 = .ok (.iload 5, 2) := by decide +kernel
theorem dX12_make_91 : decode cX12_make 91 = .ok (.bipush (-5), 2) := by decide +kernel
theorem dX12_make_93 : decode cX12_make 93 = .ok (.if_icmp .ne 9, 3) := by decide +kernel
theorem dX12_make_96 : decode cX12_make 96 = .ok (.aload_n 0, 1) := by decide +kernel
theorem dX12_make_97 : decode cX12_make 97 = .ok (.iconst 1, 1) := by decide +kernel
theorem dX12_make_98 : decode cX12_make 98 = .ok (.invokevirtual 166, 3) := by decide +kernel
theorem dX12_make_101 : decode cX12_make 101 = .ok (.ireturn, 1) := by decide +kernel
theorem dX12_make_102 : decode cX12_make 102 = .ok (.iload 4, 2) := by decide +kernel
theorem dX12_make_104 : decode cX12_make 104 = .ok (.bipush 8, 2) := by decide +kernel
theorem dX12_make_106 : decode cX12_make 106 = .ok (.if_icmp .ge 23, 3) := by decide +kernel
theorem dX12_make_109 : decode cX12_make 109 = .ok (.iload 5, 2) := by decide +kernel
theorem dX12_make_111 : decode cX12_make 111 = .ok (.bipush 8, 2) := by decide +kernel
theorem dX12_make_113 : decode cX12_make 113 = .ok (.if_icmp .ge 30, 3) := by decide +kernel
theorem dX12_make_116 : decode cX12_make 116 = .ok (.iload 5, 2) := by decide +kernel
theorem dX12_make_118 : decode cX12_make 118 = .ok (.iload 4, 2) := by decide +kernel
theorem dX12_make_120 : decode cX12_make 120 = .ok (.invokestatic 174, 3) := by decide +kernel
theorem dX12_make_123 : decode cX12_make 123 = .ok (.ifCond .ne 26, 3) := by decide +kernel
theorem dX12_make_126 : decode cX12_make 126 = .ok (.goto 17, 3) := by decide +kernel
theorem dX12_make_129 : decode cX12_make 129 = .ok (.iload 5, 2) := by decide +kernel
theorem dX12_make_131 : decode cX12_make 131 = .ok (.bipush (-5), 2) := by decide +kernel
theorem dX12_make_133 : decode cX12_make 133 = .ok (.if_icmp .eq 16, 3) := by decide +kernel
theorem dX12_make_136 : decode cX12_make 136 = .ok (.iload 5, 2) := by decide +kernel
theorem dX12_make_138 : decode cX12_make 138 = .ok (.iload 4, 2) := by decide +kernel
theorem dX12_make_140 : decode cX12_make 140 = .ok (.if_icmp .eq 9, 3) := by decide +kernel
theorem dX12_make_143 : decode cX12_make 143 = .ok (.aload_n 0, 1) := by decide +kernel
theorem dX12_make_144 : decode cX12_make 144 = .ok (.iconst 3, 1) := by decide +kernel
theorem dX12_make_145 : decode cX12_make 145 = .ok (.invokevirtual 166, 3) := by decide +kernel
theorem dX12_make_148 : decode cX12_make 148 = .ok (.ireturn, 1) := by decide +kernel
theorem dX12_make_149 : decode cX12_make 149 = .ok (.aload_n 0, 1) := by decide +kernel
theorem dX12_make_150 : decode cX12_make 150 = .ok (.getfield 87, 3) := by decide +kernel
theorem dX12_make_153 : decode cX12_make 153 = .ok (.iload_n 3, 1) := by decide +kernel
theorem dX12_make_154 : decode cX12_make 154 = .ok (.iload 5, 2) := by decide +kernel
theorem dX12_make_156 : decode cX12_make 156 = .ok (.bipush (-5), 2) := by decide +kernel
theorem dX12_make_158 : decode cX12_make 158 = .ok (.if_icmp .ne 9, 3) := by decide +kernel
theorem dX12_make_161 : decode cX12_make 161 = .ok (.ldc2_w 160, 3) := by decide +kernel
theorem dX12_make_164 : decode cX12_make 164 = .ok (.goto 32, 3) := by decide +kernel
theorem dX12_make_167 : decode cX12_make 167 = .ok (.iload 4, 2) := by decide +kernel
theorem dX12_make_169 : decode cX12_make 169 = .ok (.bipush 8, 2) := by decide +kernel
theorem dX12_make_171 : decode cX12_make 171 = .ok (.if_icmp .ge 19, 3) := by decide +kernel
theorem dX12_make_174 : decode cX12_make 174 = .ok (.iload 5, 2) := by decide +kernel
theorem dX12_make_176 : decode cX12_make 176 = .ok (.iload 4, 2) := by decide +kernel
theorem dX12_make_178 : decode cX12_make 178 = .ok (.aload_n 0, 1) := by decide +kernel
theorem dX12_make_179 : decode cX12_make 179 = .ok (.getfield 63, 3) := by decide +kernel
theorem dX12_make_182 : decode cX12_make 182 = .ok (.iload_n 3, 1) := by decide +kernel
theorem dX12_make_183 : decode cX12_make 183 = .ok (.laload, 1) := by decide +kernel
theorem dX12_make_184 : decode cX12_make 184 = .ok (.invokestatic 182, 3) := by decide +kernel
theorem dX12_make_187 : decode cX12_make 187 = .ok (.goto 9, 3) := by decide +kernel
theorem dX12_make_190 : decode cX12_make 190 = .ok (.aload_n 0, 1) := by decide +kernel
theorem dX12_make_191 : decode cX12_make 191 = .ok (.getfield 63, 3) := by decide +kernel
theorem dX12_make_194 : decode cX12_make 194 = .ok (.iload_n 3, 1) := by decide +kernel
theorem dX12_make_195 : decode cX12_make 195 = .ok (.laload, 1) := by decide +kernel
theorem dX12_make_196 : decode cX12_make 196 = .ok (.lastore, 1) := by decide +kernel
theorem dX12_make_197 : decode cX12_make 197 = .ok (.iinc 3 1, 3) := by decide +kernel
theorem dX12_make_200 : decode cX12_make 200 = .ok (.goto (-149), 3) := by decide +kernel
theorem dX12_make_203 : decode cX12_make 203 = .ok (.aload_n 0, 1) := by decide +kernel
theorem dX12_make_204 : decode cX12_make 204 = .ok (.iload_n 1, 1) := by decide +kernel
theorem dX12_make_205 : decode cX12_make 205 = .ok (.invokevirtual 253, 3) := by decide +kernel
theorem dX12_make_208 : decode cX12_make 208 = .ok (.istore_n 3, 1) := by decide +kernel
theorem dX12_make_209 : decode cX12_make 209 = .ok (.iconst 0, 1) := by decide +kernel
theorem dX12_make_210 : decode cX12_make 210 = .ok (.istore 4, 2) := by decide +kernel
theorem dX12_make_212 : decode cX12_make 212 = .ok (.iload 4, 2) := by decide +kernel
theorem dX12_make_214 : decode cX12_make 214 = .ok (.bipush 6, 2) := by decide +kernel
theorem dX12_make_216 : decode cX12_make 216 = .ok (.if_icmp .ge 22, 3) := by decide +kernel
theorem dX12_make_219 : decode cX12_make 219 = .ok (.iload_n 3, 1) := by decide +kernel
theorem dX12_make_220 : decode cX12_make 220 = .ok (.ifCond .lt 18, 3) := by decide +kernel
theorem dX12_make_223 : decode cX12_make 223 = .ok (.aload_n 0, 1) := by decide +kernel
theorem dX12_make_224 : decode cX12_make 224 = .ok (.getfield 60, 3) := by decide +kernel
theorem dX12_make_227 : decode cX12_make 227 = .ok (.iload 4, 2) := by decide +kernel
theorem dX12_make_229 : decode cX12_make 229 = .ok (.bipush (-5), 2) := by decide +kernel
theorem dX12_make_231 : decode cX12_make 231 = .ok (.iastore, 1) := by decide +kernel
theorem dX12_make_232 : decode cX12_make 232 = .ok (.iinc 4 1, 3) := by decide +kernel
theorem dX12_make_235 : decode cX12_make 235 = .ok (.goto (-23), 3) := by decide +kernel
theorem dX12_make_238 : decode cX12_make 238 = .ok (.iload_n 3, 1) := by decide +kernel
theorem dX12_make_239 : decode cX12_make 239 = .ok (.ireturn, 1) := by decide +kernel
def L_X12_make_51 (d : Nat) (v0 : Option Nm) (v1 : Int32) (v2 : Int32) (v3 : Int32) (h : MH) (u : Nat) (Q : Int32 → MH → Prop) : Prop := T u_X12_make (d + 5) 51 [some (jR v0), some (jI v1), some (jI v2), some (jI v3), none, none] [] h u (qI Q)
def L_X12_make_212 (d : Nat) (v0 : Option Nm) (v3 : Int32) (v4 : Int32) (h : MH) (u : Nat) (Q : Int32 → MH → Prop) : Prop := T u_X12_make (d + 5) 212 [some (jR v0), none, none, some (jI v3), some (jI v4), none] [] h u (qI Q)
def F_X12_make (d : Nat) (v0 : Option Nm) (v1 : Int32) (h : MH) (u : Nat) (Q : Int32 → MH → Prop) : Prop :=
  rc h v0 11 ∧ F_X12_isKind (d + 3) v0 v1 h 0 fun x1 h =>
  if x1 = 0 then
    Q (-1) h
  else
    gR h v0 11 10 fun x2 =>
    aI .boolean h x2 v1 fun x3 =>
    if x3 = 0 then
      gI h v0 11 24 fun x4 =>
      if x4 = 200 then
        Q (-4) h
      else
        rc h v0 11 ∧ F_X12_starts (d + 2) v0 v1 h 0 fun x5 h =>
        if x5 = 0 then
          Q (-4) h
        else
          rc h v0 11 ∧ F_X12_newestOf (d + 4) v0 v1 h 0 fun x6 h =>
          L_X12_make_51 d v0 v1 x6 0 h u Q
    else
      Q (-3) h
set_option maxRecDepth 20000 in
theorem E_X12_make {d : Nat} {v0 : Option Nm} {v1 : Int32} {h : MH} {u : Nat} {Q : Int32 → MH → Prop} (H : F_X12_make d v0 v1 h u Q) : T u_X12_make (d + 5) 0 [some (jR v0), some (jI v1), none, none, none, none] [] h u (qI Q) := by
  unfold F_X12_make at H
  refine T_aload_n (pc := 0) dX12_make_0 rfl rfl ?_
  refine T_iload_n (pc := 1) dX12_make_1 rfl rfl ?_
  obtain ⟨H0, H⟩ := H
  refine T_iV (pc := 2) (ci := 11) (av := [jI v1]) (rest := []) (o := v0) dX12_make_2 mf_X12_isKind c_5_198 c_5_200 pr_X12_isKind rfl rfl (Nat.le_of_ble_eq_true rfl) rfl H0 (iI_k (iI_m0 (fun x1 h H => ?_) (J_X12_isKind (d := (d + 3)) H)))
  refine T_if_ne (pc := 5) (tgt := 10) dX12_make_5 (by decide) (fun hc => ?_) (fun hc => ?_)
  · rw [if_neg hc] at H
    refine T_aload_n (pc := 10) dX12_make_10 rfl rfl ?_
    refine T_gR (pc := 11) fa_X12_27 dX12_make_11 (gR_mono (fun x2 H => ?_) H)
    refine T_iload_n (pc := 14) dX12_make_14 rfl rfl ?_
    refine T_aZ (pc := 15) dX12_make_15 (aI_mono (fun x3 H => ?_) H)
    refine T_if_eq (pc := 16) (tgt := 22) dX12_make_16 (by decide) (fun hc => ?_) (fun hc => ?_)
    · rw [if_pos hc] at H
      refine T_aload_n (pc := 22) dX12_make_22 rfl rfl ?_
      refine T_gI (pc := 23) fa_X12_215 dX12_make_23 (gI_mono (fun x4 H => ?_) H)
      refine T_sipush (pc := 26) (v := 200) dX12_make_26 (by decide) ?_
      refine T_icmp_eq (pc := 29) (tgt := 40) dX12_make_29 (by decide) (fun hc => ?_) (fun hc => ?_)
      · rw [if_pos hc] at H
        refine T_bipush (pc := 40) (v := (-4)) dX12_make_40 (by decide) ?_
        exact T_ireturn (pc := 42) rfl rfl dX12_make_42 H
      · rw [if_neg hc] at H
        refine T_aload_n (pc := 32) dX12_make_32 rfl rfl ?_
        refine T_iload_n (pc := 33) dX12_make_33 rfl rfl ?_
        obtain ⟨H0, H⟩ := H
        refine T_iV (pc := 34) (ci := 11) (av := [jI v1]) (rest := []) (o := v0) dX12_make_34 mf_X12_starts c_6_2 c_6_4 pr_X12_starts rfl rfl (Nat.le_of_ble_eq_true rfl) rfl H0 (iI_k (iI_m0 (fun x5 h H => ?_) (J_X12_starts (d := (d + 2)) H)))
        refine T_if_ne (pc := 37) (tgt := 43) dX12_make_37 (by decide) (fun hc => ?_) (fun hc => ?_)
        · rw [if_neg hc] at H
          refine T_aload_n (pc := 43) dX12_make_43 rfl rfl ?_
          refine T_iload_n (pc := 44) dX12_make_44 rfl rfl ?_
          obtain ⟨H0, H⟩ := H
          refine T_iV (pc := 45) (ci := 11) (av := [jI v1]) (rest := []) (o := v0) dX12_make_45 mf_X12_newestOf c_5_210 c_5_212 pr_X12_newestOf rfl rfl (Nat.le_of_ble_eq_true rfl) rfl H0 (iI_k (iI_m0 (fun x6 h H => ?_) (J_X12_newestOf (d := (d + 4)) H)))
          refine T_istore_n (pc := 48) (ls2 := [some (jR v0), some (jI v1), some (jI x6), none, none, none]) dX12_make_48 rfl (Nat.le_of_ble_eq_true rfl) rfl ?_
          refine T_iconst (pc := 49) (v := 0) dX12_make_49 (by decide) ?_
          refine T_istore_n (pc := 50) (ls2 := [some (jR v0), some (jI v1), some (jI x6), some (jI 0), none, none]) dX12_make_50 rfl (Nat.le_of_ble_eq_true rfl) rfl ?_
          exact T.forget H ⟨rfl, rfl, rfl, rfl, trivial⟩
        · rw [if_pos hc] at H
          refine T_bipush (pc := 40) (v := (-4)) dX12_make_40 (by decide) ?_
          exact T_ireturn (pc := 42) rfl rfl dX12_make_42 H
    · rw [if_neg hc] at H
      refine T_bipush (pc := 19) (v := (-3)) dX12_make_19 (by decide) ?_
      exact T_ireturn (pc := 21) rfl rfl dX12_make_21 H
  · rw [if_pos hc] at H
    refine T_iconst (pc := 8) (v := (-1)) dX12_make_8 (by decide) ?_
    exact T_ireturn (pc := 9) rfl rfl dX12_make_9 H
def F_X12_make_149 (d : Nat) (v0 : Option Nm) (v1 : Int32) (v2 : Int32) (v3 : Int32) (v4 : Int32) (v5 : Int32) (h : MH) (u : Nat) (Q : Int32 → MH → Prop) : Prop :=
  gR h v0 11 32 fun x1 =>
  if v5 = (-5) then
    sV .long h x1 v3 (jL (-1)) fun h =>
    L_X12_make_51 d v0 v1 v2 (v3 + 1) h u Q
  else
    if 8 ≤ v4 then
      gR h v0 11 23 fun x2 =>
      aL h x2 v3 fun x3 =>
      sV .long h x1 v3 (jL x3) fun h =>
      L_X12_make_51 d v0 v1 v2 (v3 + 1) h u Q
    else
      gR h v0 11 23 fun x4 =>
      aL h x4 v3 fun x5 =>
      F_X12_widened (d + 2) v5 v4 x5 h 0 fun x6 h =>
      sV .long h x1 v3 (jL x6) fun h =>
      L_X12_make_51 d v0 v1 v2 (v3 + 1) h u Q
set_option maxRecDepth 20000 in
theorem E_X12_make_149 {d : Nat} {v0 : Option Nm} {v1 : Int32} {v2 : Int32} {v3 : Int32} {v4 : Int32} {v5 : Int32} {h : MH} {u : Nat} {Q : Int32 → MH → Prop} (H : F_X12_make_149 d v0 v1 v2 v3 v4 v5 h u Q) : T u_X12_make (d + 5) 149 [some (jR v0), some (jI v1), some (jI v2), some (jI v3), some (jI v4), some (jI v5)] [] h u (qI Q) := by
  unfold F_X12_make_149 at H
  refine T_aload_n (pc := 149) dX12_make_149 rfl rfl ?_
  refine T_gR (pc := 150) fa_X12_87 dX12_make_150 (gR_mono (fun x1 H => ?_) H)
  refine T_iload_n (pc := 153) dX12_make_153 rfl rfl ?_
  refine T_iload (pc := 154) dX12_make_154 rfl ?_
  refine T_bipush (pc := 156) (v := (-5)) dX12_make_156 (by decide) ?_
  refine T_icmp_ne (pc := 158) (tgt := 167) dX12_make_158 (by decide) (fun hc => ?_) (fun hc => ?_)
  · rw [if_neg hc] at H
    refine T_iload (pc := 167) dX12_make_167 rfl ?_
    refine T_bipush (pc := 169) (v := 8) dX12_make_169 (by decide) ?_
    refine T_icmp_ge (pc := 171) (tgt := 190) dX12_make_171 (by decide) (fun hc => ?_) (fun hc => ?_)
    · rw [if_pos hc] at H
      refine T_aload_n (pc := 190) dX12_make_190 rfl rfl ?_
      refine T_gR (pc := 191) fa_X12_63 dX12_make_191 (gR_mono (fun x2 H => ?_) H)
      refine T_iload_n (pc := 194) dX12_make_194 rfl rfl ?_
      refine T_aL (pc := 195) dX12_make_195 (aL_mono (fun x3 H => ?_) H)
      refine T_sL (pc := 196) dX12_make_196 (sV_mono (fun h H => ?_) H)
      refine T_iinc (pc := 197) (v := v3 + 1) (ls2 := [some (jR v0), some (jI v1), some (jI v2), some (jI (v3 + 1)), some (jI v4), some (jI v5)]) dX12_make_197 rfl rfl (Nat.le_of_ble_eq_true rfl) rfl ?_
      refine T_goto (pc := 200) (tgt := 51) dX12_make_200 (by decide) ?_
      exact T.forget H ⟨rfl, rfl, rfl, rfl, trivial⟩
    · rw [if_neg hc] at H
      refine T_iload (pc := 174) dX12_make_174 rfl ?_
      refine T_iload (pc := 176) dX12_make_176 rfl ?_
      refine T_aload_n (pc := 178) dX12_make_178 rfl rfl ?_
      refine T_gR (pc := 179) fa_X12_63 dX12_make_179 (gR_mono (fun x4 H => ?_) H)
      refine T_iload_n (pc := 182) dX12_make_182 rfl rfl ?_
      refine T_aL (pc := 183) dX12_make_183 (aL_mono (fun x5 H => ?_) H)
      refine T_invS (pc := 184) (av := [jI v5, jI v4, jL x5]) (rest := [jI v3, jR x1]) dX12_make_184 mf_X12_widened c_5_133 c_5_134 rfl (Nat.le_of_ble_eq_true rfl) rfl (iL_k (iL_m0 (fun x6 h H => ?_) (J_X12_widened (d := (d + 2)) H)))
      refine T_goto (pc := 187) (tgt := 196) dX12_make_187 (by decide) ?_
      refine T_sL (pc := 196) dX12_make_196 (sV_mono (fun h H => ?_) H)
      refine T_iinc (pc := 197) (v := v3 + 1) (ls2 := [some (jR v0), some (jI v1), some (jI v2), some (jI (v3 + 1)), some (jI v4), some (jI v5)]) dX12_make_197 rfl rfl (Nat.le_of_ble_eq_true rfl) rfl ?_
      refine T_goto (pc := 200) (tgt := 51) dX12_make_200 (by decide) ?_
      exact T.forget H ⟨rfl, rfl, rfl, rfl, trivial⟩
  · rw [if_pos hc] at H
    refine T_ldc2 (pc := 161) (v := (-1)) dX12_make_161 c_5_97 ?_
    refine T_goto (pc := 164) (tgt := 196) dX12_make_164 (by decide) ?_
    refine T_sL (pc := 196) dX12_make_196 (sV_mono (fun h H => ?_) H)
    refine T_iinc (pc := 197) (v := v3 + 1) (ls2 := [some (jR v0), some (jI v1), some (jI v2), some (jI (v3 + 1)), some (jI v4), some (jI v5)]) dX12_make_197 rfl rfl (Nat.le_of_ble_eq_true rfl) rfl ?_
    refine T_goto (pc := 200) (tgt := 51) dX12_make_200 (by decide) ?_
    exact T.forget H ⟨rfl, rfl, rfl, rfl, trivial⟩
def F_X12_make_102 (d : Nat) (v0 : Option Nm) (v1 : Int32) (v2 : Int32) (v3 : Int32) (v4 : Int32) (v5 : Int32) (h : MH) (u : Nat) (Q : Int32 → MH → Prop) : Prop :=
  if 8 ≤ v4 then
    if v5 = (-5) then
      F_X12_make_149 d v0 v1 v2 v3 v4 v5 h u Q
    else
      if v5 = v4 then
        F_X12_make_149 d v0 v1 v2 v3 v4 v5 h u Q
      else
        rc h v0 11 ∧ F_X12_fails (d + 4) v0 3 h 0 fun x1 h =>
        Q x1 h
  else
    if 8 ≤ v5 then
      rc h v0 11 ∧ F_X12_fails (d + 4) v0 3 h 0 fun x2 h =>
      Q x2 h
    else
      F_X12_isWidened (d + 4) v5 v4 h 0 fun x3 h =>
      if x3 = 0 then
        rc h v0 11 ∧ F_X12_fails (d + 4) v0 3 h 0 fun x4 h =>
        Q x4 h
      else
        F_X12_make_149 d v0 v1 v2 v3 v4 v5 h u Q
set_option maxRecDepth 20000 in
theorem E_X12_make_102 {d : Nat} {v0 : Option Nm} {v1 : Int32} {v2 : Int32} {v3 : Int32} {v4 : Int32} {v5 : Int32} {h : MH} {u : Nat} {Q : Int32 → MH → Prop} (H : F_X12_make_102 d v0 v1 v2 v3 v4 v5 h u Q) : T u_X12_make (d + 5) 102 [some (jR v0), some (jI v1), some (jI v2), some (jI v3), some (jI v4), some (jI v5)] [] h u (qI Q) := by
  unfold F_X12_make_102 at H
  refine T_iload (pc := 102) dX12_make_102 rfl ?_
  refine T_bipush (pc := 104) (v := 8) dX12_make_104 (by decide) ?_
  refine T_icmp_ge (pc := 106) (tgt := 129) dX12_make_106 (by decide) (fun hc => ?_) (fun hc => ?_)
  · rw [if_pos hc] at H
    refine T_iload (pc := 129) dX12_make_129 rfl ?_
    refine T_bipush (pc := 131) (v := (-5)) dX12_make_131 (by decide) ?_
    refine T_icmp_eq (pc := 133) (tgt := 149) dX12_make_133 (by decide) (fun hc => ?_) (fun hc => ?_)
    · rw [if_pos hc] at H
      exact T.forget (E_X12_make_149 H) ⟨rfl, rfl, rfl, rfl, rfl, rfl, trivial⟩
    · rw [if_neg hc] at H
      refine T_iload (pc := 136) dX12_make_136 rfl ?_
      refine T_iload (pc := 138) dX12_make_138 rfl ?_
      refine T_icmp_eq (pc := 140) (tgt := 149) dX12_make_140 (by decide) (fun hc => ?_) (fun hc => ?_)
      · rw [if_pos hc] at H
        exact T.forget (E_X12_make_149 H) ⟨rfl, rfl, rfl, rfl, rfl, rfl, trivial⟩
      · rw [if_neg hc] at H
        refine T_aload_n (pc := 143) dX12_make_143 rfl rfl ?_
        refine T_iconst (pc := 144) (v := 3) dX12_make_144 (by decide) ?_
        obtain ⟨H0, H⟩ := H
        refine T_iV (pc := 145) (ci := 11) (av := [jI 3]) (rest := []) (o := v0) dX12_make_145 mf_X12_fails c_5_89 c_5_91 pr_X12_fails rfl rfl (Nat.le_of_ble_eq_true rfl) rfl H0 (iI_k (iI_m0 (fun x1 h H => ?_) (J_X12_fails (d := (d + 4)) H)))
        exact T_ireturn (pc := 148) rfl rfl dX12_make_148 H
  · rw [if_neg hc] at H
    refine T_iload (pc := 109) dX12_make_109 rfl ?_
    refine T_bipush (pc := 111) (v := 8) dX12_make_111 (by decide) ?_
    refine T_icmp_ge (pc := 113) (tgt := 143) dX12_make_113 (by decide) (fun hc => ?_) (fun hc => ?_)
    · rw [if_pos hc] at H
      refine T_aload_n (pc := 143) dX12_make_143 rfl rfl ?_
      refine T_iconst (pc := 144) (v := 3) dX12_make_144 (by decide) ?_
      obtain ⟨H0, H⟩ := H
      refine T_iV (pc := 145) (ci := 11) (av := [jI 3]) (rest := []) (o := v0) dX12_make_145 mf_X12_fails c_5_89 c_5_91 pr_X12_fails rfl rfl (Nat.le_of_ble_eq_true rfl) rfl H0 (iI_k (iI_m0 (fun x2 h H => ?_) (J_X12_fails (d := (d + 4)) H)))
      exact T_ireturn (pc := 148) rfl rfl dX12_make_148 H
    · rw [if_neg hc] at H
      refine T_iload (pc := 116) dX12_make_116 rfl ?_
      refine T_iload (pc := 118) dX12_make_118 rfl ?_
      refine T_invS (pc := 120) (av := [jI v5, jI v4]) (rest := []) dX12_make_120 mf_X12_isWidened c_5_106 c_5_107 rfl (Nat.le_of_ble_eq_true rfl) rfl (iI_k (iI_m0 (fun x3 h H => ?_) (J_X12_isWidened (d := (d + 4)) H)))
      refine T_if_ne (pc := 123) (tgt := 149) dX12_make_123 (by decide) (fun hc => ?_) (fun hc => ?_)
      · rw [if_neg hc] at H
        exact T.forget (E_X12_make_149 H) ⟨rfl, rfl, rfl, rfl, rfl, rfl, trivial⟩
      · rw [if_pos hc] at H
        refine T_goto (pc := 126) (tgt := 143) dX12_make_126 (by decide) ?_
        refine T_aload_n (pc := 143) dX12_make_143 rfl rfl ?_
        refine T_iconst (pc := 144) (v := 3) dX12_make_144 (by decide) ?_
        obtain ⟨H0, H⟩ := H
        refine T_iV (pc := 145) (ci := 11) (av := [jI 3]) (rest := []) (o := v0) dX12_make_145 mf_X12_fails c_5_89 c_5_91 pr_X12_fails rfl rfl (Nat.le_of_ble_eq_true rfl) rfl H0 (iI_k (iI_m0 (fun x4 h H => ?_) (J_X12_fails (d := (d + 4)) H)))
        exact T_ireturn (pc := 148) rfl rfl dX12_make_148 H
def F_X12_make_51 (d : Nat) (v0 : Option Nm) (v1 : Int32) (v2 : Int32) (v3 : Int32) (h : MH) (u : Nat) (Q : Int32 → MH → Prop) : Prop :=
  gR h v0 11 15 fun x1 =>
  aI .int h x1 v2 fun x2 =>
  if x2 ≤ v3 then
    rc h v0 11 ∧ F_X12_finish d v0 v1 h 0 fun x3 h =>
    L_X12_make_212 d v0 x3 0 h u Q
  else
    gR h v0 11 17 fun x4 =>
    aI .int h x4 ((8 * v2) + v3) fun x5 =>
    gR h v0 11 22 fun x6 =>
    aI .int h x6 v3 fun x7 =>
    if 8 ≤ x5 then
      F_X12_make_102 d v0 v1 v2 v3 x5 x7 h u Q
    else
      if x7 = (-5) then
        rc h v0 11 ∧ F_X12_fails (d + 4) v0 1 h 0 fun x8 h =>
        Q x8 h
      else
        F_X12_make_102 d v0 v1 v2 v3 x5 x7 h u Q
set_option maxRecDepth 20000 in
theorem E_X12_make_51 {d : Nat} {v0 : Option Nm} {v1 : Int32} {v2 : Int32} {v3 : Int32} {h : MH} {u : Nat} {Q : Int32 → MH → Prop} (H : F_X12_make_51 d v0 v1 v2 v3 h u Q) : T u_X12_make (d + 5) 51 [some (jR v0), some (jI v1), some (jI v2), some (jI v3), none, none] [] h u (qI Q) := by
  unfold F_X12_make_51 at H
  refine T_iload_n (pc := 51) dX12_make_51 rfl rfl ?_
  refine T_aload_n (pc := 52) dX12_make_52 rfl rfl ?_
  refine T_gR (pc := 53) fa_X12_42 dX12_make_53 (gR_mono (fun x1 H => ?_) H)
  refine T_iload_n (pc := 56) dX12_make_56 rfl rfl ?_
  refine T_aI (pc := 57) dX12_make_57 (aI_mono (fun x2 H => ?_) H)
  refine T_icmp_ge (pc := 58) (tgt := 203) dX12_make_58 (by decide) (fun hc => ?_) (fun hc => ?_)
  · rw [if_pos hc] at H
    refine T_aload_n (pc := 203) dX12_make_203 rfl rfl ?_
    refine T_iload_n (pc := 204) dX12_make_204 rfl rfl ?_
    obtain ⟨H0, H⟩ := H
    refine T_iV (pc := 205) (ci := 11) (av := [jI v1]) (rest := []) (o := v0) dX12_make_205 mf_X12_finish c_6_10 c_6_12 pr_X12_finish rfl rfl (Nat.le_of_ble_eq_true rfl) rfl H0 (iI_k (iI_m0 (fun x3 h H => ?_) (J_X12_finish (d := d) H)))
    refine T_istore_n (pc := 208) (ls2 := [some (jR v0), some (jI v1), some (jI v2), some (jI x3), none, none]) dX12_make_208 rfl (Nat.le_of_ble_eq_true rfl) rfl ?_
    refine T_iconst (pc := 209) (v := 0) dX12_make_209 (by decide) ?_
    refine T_istore (pc := 210) (ls2 := [some (jR v0), some (jI v1), some (jI v2), some (jI x3), some (jI 0), none]) dX12_make_210 (Nat.le_of_ble_eq_true rfl) rfl ?_
    exact T.forget H ⟨rfl, rfl, rfl, trivial⟩
  · rw [if_neg hc] at H
    refine T_aload_n (pc := 61) dX12_make_61 rfl rfl ?_
    refine T_gR (pc := 62) fa_X12_48 dX12_make_62 (gR_mono (fun x4 H => ?_) H)
    refine T_bipush (pc := 65) (v := 8) dX12_make_65 (by decide) ?_
    refine T_iload_n (pc := 67) dX12_make_67 rfl rfl ?_
    refine T_imul (pc := 68) dX12_make_68 ?_
    refine T_iload_n (pc := 69) dX12_make_69 rfl rfl ?_
    refine T_iadd (pc := 70) dX12_make_70 ?_
    refine T_aI (pc := 71) dX12_make_71 (aI_mono (fun x5 H => ?_) H)
    refine T_istore (pc := 72) (ls2 := [some (jR v0), some (jI v1), some (jI v2), some (jI v3), some (jI x5), none]) dX12_make_72 (Nat.le_of_ble_eq_true rfl) rfl ?_
    refine T_aload_n (pc := 74) dX12_make_74 rfl rfl ?_
    refine T_gR (pc := 75) fa_X12_60 dX12_make_75 (gR_mono (fun x6 H => ?_) H)
    refine T_iload_n (pc := 78) dX12_make_78 rfl rfl ?_
    refine T_aI (pc := 79) dX12_make_79 (aI_mono (fun x7 H => ?_) H)
    refine T_istore (pc := 80) (ls2 := [some (jR v0), some (jI v1), some (jI v2), some (jI v3), some (jI x5), some (jI x7)]) dX12_make_80 (Nat.le_of_ble_eq_true rfl) rfl ?_
    refine T_iload (pc := 82) dX12_make_82 rfl ?_
    refine T_bipush (pc := 84) (v := 8) dX12_make_84 (by decide) ?_
    refine T_icmp_ge (pc := 86) (tgt := 102) dX12_make_86 (by decide) (fun hc => ?_) (fun hc => ?_)
    · rw [if_pos hc] at H
      exact T.forget (E_X12_make_102 H) ⟨rfl, rfl, rfl, rfl, rfl, rfl, trivial⟩
    · rw [if_neg hc] at H
      refine T_iload (pc := 89) dX12_make_89 rfl ?_
      refine T_bipush (pc := 91) (v := (-5)) dX12_make_91 (by decide) ?_
      refine T_icmp_ne (pc := 93) (tgt := 102) dX12_make_93 (by decide) (fun hc => ?_) (fun hc => ?_)
      · rw [if_neg hc] at H
        exact T.forget (E_X12_make_102 H) ⟨rfl, rfl, rfl, rfl, rfl, rfl, trivial⟩
      · rw [if_pos hc] at H
        refine T_aload_n (pc := 96) dX12_make_96 rfl rfl ?_
        refine T_iconst (pc := 97) (v := 1) dX12_make_97 (by decide) ?_
        obtain ⟨H0, H⟩ := H
        refine T_iV (pc := 98) (ci := 11) (av := [jI 1]) (rest := []) (o := v0) dX12_make_98 mf_X12_fails c_5_89 c_5_91 pr_X12_fails rfl rfl (Nat.le_of_ble_eq_true rfl) rfl H0 (iI_k (iI_m0 (fun x8 h H => ?_) (J_X12_fails (d := (d + 4)) H)))
        exact T_ireturn (pc := 101) rfl rfl dX12_make_101 H
def F_X12_make_212 (d : Nat) (v0 : Option Nm) (v3 : Int32) (v4 : Int32) (h : MH) (u : Nat) (Q : Int32 → MH → Prop) : Prop :=
  if 6 ≤ v4 then
    Q v3 h
  else
    if v3 < 0 then
      Q v3 h
    else
      gR h v0 11 22 fun x1 =>
      sV .int h x1 v4 (jI (-5)) fun h =>
      L_X12_make_212 d v0 v3 (v4 + 1) h u Q
set_option maxRecDepth 20000 in
theorem E_X12_make_212 {d : Nat} {v0 : Option Nm} {v3 : Int32} {v4 : Int32} {h : MH} {u : Nat} {Q : Int32 → MH → Prop} (H : F_X12_make_212 d v0 v3 v4 h u Q) : T u_X12_make (d + 5) 212 [some (jR v0), none, none, some (jI v3), some (jI v4), none] [] h u (qI Q) := by
  unfold F_X12_make_212 at H
  refine T_iload (pc := 212) dX12_make_212 rfl ?_
  refine T_bipush (pc := 214) (v := 6) dX12_make_214 (by decide) ?_
  refine T_icmp_ge (pc := 216) (tgt := 238) dX12_make_216 (by decide) (fun hc => ?_) (fun hc => ?_)
  · rw [if_pos hc] at H
    refine T_iload_n (pc := 238) dX12_make_238 rfl rfl ?_
    exact T_ireturn (pc := 239) rfl rfl dX12_make_239 H
  · rw [if_neg hc] at H
    refine T_iload_n (pc := 219) dX12_make_219 rfl rfl ?_
    refine T_if_lt (pc := 220) (tgt := 238) dX12_make_220 (by decide) (fun hc => ?_) (fun hc => ?_)
    · rw [if_pos hc] at H
      refine T_iload_n (pc := 238) dX12_make_238 rfl rfl ?_
      exact T_ireturn (pc := 239) rfl rfl dX12_make_239 H
    · rw [if_neg hc] at H
      refine T_aload_n (pc := 223) dX12_make_223 rfl rfl ?_
      refine T_gR (pc := 224) fa_X12_60 dX12_make_224 (gR_mono (fun x1 H => ?_) H)
      refine T_iload (pc := 227) dX12_make_227 rfl ?_
      refine T_bipush (pc := 229) (v := (-5)) dX12_make_229 (by decide) ?_
      refine T_sI (pc := 231) dX12_make_231 (sV_mono (fun h H => ?_) H)
      refine T_iinc (pc := 232) (v := v4 + 1) (ls2 := [some (jR v0), none, none, some (jI v3), some (jI (v4 + 1)), none]) dX12_make_232 rfl rfl (Nat.le_of_ble_eq_true rfl) rfl ?_
      refine T_goto (pc := 235) (tgt := 212) dX12_make_235 (by decide) ?_
      exact T.forget H ⟨rfl, rfl, rfl, trivial⟩
theorem I_X12_make {d : Nat} {v0 : Option Nm} {v1 : Int32} {h : MH} {u : Nat} {K : Int32 → MH → Nat → Prop} (u1 : Nat) (hu : u1 ≤ u) (H : F_X12_make d v0 v1 h u1 (fun x h2 => K x h2 (u - u1))) : iI (d + 5) u_X12_make [jR v0, jI v1] h u K := inv.of u1 hu (Ct.of (by decide +kernel) rfl (Nat.le_of_ble_eq_true rfl) rfl (E_X12_make H))
theorem J_X12_make {d : Nat} {v0 : Option Nm} {v1 : Int32} {h : MH} {u : Nat} {K : Int32 → MH → Prop} (H : F_X12_make d v0 v1 h 0 K) : iI (d + 5) u_X12_make [jR v0, jI v1] h u (fun x h2 u2 => K x h2 ∧ u2 = u) := jiI (by decide +kernel) rfl (Nat.le_of_ble_eq_true rfl) rfl (E_X12_make H)
theorem dX12_match_0 : decode cX12_match 0 = .ok (.iload_n 1, 1) := by decide +kernel
theorem dX12_match_1 : decode cX12_match 1 = .ok (.iconst 0, 1) := by decide +kernel
theorem dX12_match_2 : decode cX12_match 2 = .ok (.aload_n 0, 1) := by decide +kernel
theorem dX12_match_3 : decode cX12_match 3 = .ok (.getfield 228, 3) := by decide +kernel
theorem dX12_match_6 : decode cX12_match 6 = .ok (.iconst 1, 1) := by decide +kernel
theorem dX12_match_7 : decode cX12_match 7 = .ok (.isub, 1) := by decide +kernel
theorem dX12_match_8 : decode cX12_match 8 = .ok (.invokestatic 156, 3) := by decide +kernel
theorem dX12_match_11 : decode cX12_match 11 = .ok (.ifCond .eq 11, 3) := by decide +kernel
theorem dX12_match_14 : decode cX12_match 14 = .ok (.aload_n 0, 1) := by decide +kernel
theorem dX12_match_15 : decode cX12_match 15 = .ok (.iload_n 2, 1) := by decide +kernel
theorem dX12_match_16 : decode cX12_match 16 = .ok (.invokevirtual 190, 3) := by decide +kernel
theorem dX12_match_19 : decode cX12_match 19 = .ok (.ifCond .ne 5, 3) := by decide +kernel
theorem dX12_match_22 : decode cX12_match 22 = .ok (.iconst (-1), 1) := by decide +kernel
theorem dX12_match_23 : decode cX12_match 23 = .ok (.ireturn, 1) := by decide +kernel
theorem dX12_match_24 : decode cX12_match 24 = .ok (.iconst 0, 1) := by decide +kernel
theorem dX12_match_25 : decode cX12_match 25 = .ok (.istore_n 3, 1) := by decide +kernel
theorem dX12_match_26 : decode cX12_match 26 = .ok (.iconst 0, 1) := by decide +kernel
theorem dX12_match_27 : decode cX12_match 27 = .ok (.istore 4, 2) := by decide +kernel
theorem dX12_match_29 : decode cX12_match 29 = .ok (.iload 4, 2) := by decide +kernel
theorem dX12_match_31 : decode cX12_match 31 = .ok (.aload_n 0, 1) := by decide +kernel
theorem dX12_match_32 : decode cX12_match 32 = .ok (.getfield 66, 3) := by decide +kernel
theorem dX12_match_35 : decode cX12_match 35 = .ok (.iload_n 2, 1) := by decide +kernel
theorem dX12_match_36 : decode cX12_match 36 = .ok (.iaload, 1) := by decide +kernel
theorem dX12_match_37 : decode cX12_match 37 = .ok (.if_icmp .ge 23, 3) := by decide +kernel
theorem dX12_match_40 : decode cX12_match 40 = .ok (.iload_n 3, 1) := by decide +kernel
theorem dX12_match_41 : decode cX12_match 41 = .ok (.aload_n 0, 1) := by decide +kernel
theorem dX12_match_42 : decode cX12_match 42 = .ok (.getfield 54, 3) := by decide +kernel
theorem dX12_match_45 : decode cX12_match 45 = .ok (.iload_n 1, 1) := by decide +kernel
theorem dX12_match_46 : decode cX12_match 46 = .ok (.iaload, 1) := by decide +kernel
theorem dX12_match_47 : decode cX12_match 47 = .ok (.iload 4, 2) := by decide +kernel
theorem dX12_match_49 : decode cX12_match 49 = .ok (.ishr, 1) := by decide +kernel
theorem dX12_match_50 : decode cX12_match 50 = .ok (.iconst 1, 1) := by decide +kernel
theorem dX12_match_51 : decode cX12_match 51 = .ok (.iand, 1) := by decide +kernel
theorem dX12_match_52 : decode cX12_match 52 = .ok (.iadd, 1) := by decide +kernel
theorem dX12_match_53 : decode cX12_match 53 = .ok (.istore_n 3, 1) := by decide +kernel
theorem dX12_match_54 : decode cX12_match 54 = .ok (.iinc 4 1, 3) := by decide +kernel
theorem dX12_match_57 : decode cX12_match 57 = .ok (.goto (-28), 3) := by decide +kernel
theorem dX12_match_60 : decode cX12_match 60 = .ok (.aload_n 0, 1) := by decide +kernel
theorem dX12_match_61 : decode cX12_match 61 = .ok (.getfield 54, 3) := by decide +kernel
theorem dX12_match_64 : decode cX12_match 64 = .ok (.iload_n 1, 1) := by decide +kernel
theorem dX12_match_65 : decode cX12_match 65 = .ok (.iaload, 1) := by decide +kernel
theorem dX12_match_66 : decode cX12_match 66 = .ok (.aload_n 0, 1) := by decide +kernel
theorem dX12_match_67 : decode cX12_match 67 = .ok (.getfield 66, 3) := by decide +kernel
theorem dX12_match_70 : decode cX12_match 70 = .ok (.iload_n 2, 1) := by decide +kernel
theorem dX12_match_71 : decode cX12_match 71 = .ok (.iaload, 1) := by decide +kernel
theorem dX12_match_72 : decode cX12_match 72 = .ok (.ishr, 1) := by decide +kernel
theorem dX12_match_73 : decode cX12_match 73 = .ok (.iconst 1, 1) := by decide +kernel
theorem dX12_match_74 : decode cX12_match 74 = .ok (.iand, 1) := by decide +kernel
theorem dX12_match_75 : decode cX12_match 75 = .ok (.iconst 1, 1) := by decide +kernel
theorem dX12_match_76 : decode cX12_match 76 = .ok (.if_icmp .ne 7, 3) := by decide +kernel
theorem dX12_match_79 : decode cX12_match 79 = .ok (.iload_n 3, 1) := by decide +kernel
theorem dX12_match_80 : decode cX12_match 80 = .ok (.goto 19, 3) := by decide +kernel
theorem dX12_match_83 : decode cX12_match 83 = .ok (.aload_n 0, 1) := by decide +kernel
theorem dX12_match_84 : decode cX12_match 84 = .ok (.getfield 57, 3) := by decide +kernel
theorem dX12_match_87 : decode cX12_match 87 = .ok (.iload_n 1, 1) := by decide +kernel
theorem dX12_match_88 : decode cX12_match 88 = .ok (.baload, 1) := by decide +kernel
theorem dX12_match_89 : decode cX12_match 89 = .ok (.ifCond .eq 8, 3) := by decide +kernel
theorem dX12_match_92 : decode cX12_match 92 = .ok (.bipush (-3), 2) := by decide +kernel
theorem dX12_match_94 : decode cX12_match 94 = .ok (.goto 5, 3) := by decide +kernel
theorem dX12_match_97 : decode cX12_match 97 = .ok (.bipush (-5), 2) := by decide +kernel
theorem dX12_match_99 : decode cX12_match 99 = .ok (.ireturn, 1) := by decide +kernel
def L_X12_match_29 (d : Nat) (v0 : Option Nm) (v1 : Int32) (v2 : Int32) (v3 : Int32) (v4 : Int32) (h : MH) (u : Nat) (Q : Int32 → MH → Prop) : Prop := T u_X12_match (d + 2) 29 [some (jR v0), some (jI v1), some (jI v2), some (jI v3), some (jI v4)] [] h u (qI Q)
def F_X12_match (d : Nat) (v0 : Option Nm) (v1 : Int32) (v2 : Int32) (h : MH) (u : Nat) (Q : Int32 → MH → Prop) : Prop :=
  gI h v0 11 19 fun x1 =>
  F_X12_in (d + 1) v1 0 (x1 - 1) h 0 fun x2 h =>
  if x2 = 0 then
    Q (-1) h
  else
    rc h v0 11 ∧ F_X12_isValue d v0 v2 h 0 fun x3 h =>
    if x3 = 0 then
      Q (-1) h
    else
      L_X12_match_29 d v0 v1 v2 0 0 h u Q
set_option maxRecDepth 20000 in
theorem E_X12_match {d : Nat} {v0 : Option Nm} {v1 : Int32} {v2 : Int32} {h : MH} {u : Nat} {Q : Int32 → MH → Prop} (H : F_X12_match d v0 v1 v2 h u Q) : T u_X12_match (d + 2) 0 [some (jR v0), some (jI v1), some (jI v2), none, none] [] h u (qI Q) := by
  unfold F_X12_match at H
  refine T_iload_n (pc := 0) dX12_match_0 rfl rfl ?_
  refine T_iconst (pc := 1) (v := 0) dX12_match_1 (by decide) ?_
  refine T_aload_n (pc := 2) dX12_match_2 rfl rfl ?_
  refine T_gI (pc := 3) fa_X12_228 dX12_match_3 (gI_mono (fun x1 H => ?_) H)
  refine T_iconst (pc := 6) (v := 1) dX12_match_6 (by decide) ?_
  refine T_isub (pc := 7) dX12_match_7 ?_
  refine T_invS (pc := 8) (av := [jI v1, jI 0, jI (x1 - 1)]) (rest := []) dX12_match_8 mf_X12_in c_5_86 c_5_87 rfl (Nat.le_of_ble_eq_true rfl) rfl (iI_k (iI_m0 (fun x2 h H => ?_) (J_X12_in (d := (d + 1)) H)))
  refine T_if_eq (pc := 11) (tgt := 22) dX12_match_11 (by decide) (fun hc => ?_) (fun hc => ?_)
  · rw [if_pos hc] at H
    refine T_iconst (pc := 22) (v := (-1)) dX12_match_22 (by decide) ?_
    exact T_ireturn (pc := 23) rfl rfl dX12_match_23 H
  · rw [if_neg hc] at H
    refine T_aload_n (pc := 14) dX12_match_14 rfl rfl ?_
    refine T_iload_n (pc := 15) dX12_match_15 rfl rfl ?_
    obtain ⟨H0, H⟩ := H
    refine T_iV (pc := 16) (ci := 11) (av := [jI v2]) (rest := []) (o := v0) dX12_match_16 mf_X12_isValue c_5_155 c_5_157 pr_X12_isValue rfl rfl (Nat.le_of_ble_eq_true rfl) rfl H0 (iI_k (iI_m0 (fun x3 h H => ?_) (J_X12_isValue (d := d) H)))
    refine T_if_ne (pc := 19) (tgt := 24) dX12_match_19 (by decide) (fun hc => ?_) (fun hc => ?_)
    · rw [if_neg hc] at H
      refine T_iconst (pc := 24) (v := 0) dX12_match_24 (by decide) ?_
      refine T_istore_n (pc := 25) (ls2 := [some (jR v0), some (jI v1), some (jI v2), some (jI 0), none]) dX12_match_25 rfl (Nat.le_of_ble_eq_true rfl) rfl ?_
      refine T_iconst (pc := 26) (v := 0) dX12_match_26 (by decide) ?_
      refine T_istore (pc := 27) (ls2 := [some (jR v0), some (jI v1), some (jI v2), some (jI 0), some (jI 0)]) dX12_match_27 (Nat.le_of_ble_eq_true rfl) rfl ?_
      exact T.forget H ⟨rfl, rfl, rfl, rfl, rfl, trivial⟩
    · rw [if_pos hc] at H
      refine T_iconst (pc := 22) (v := (-1)) dX12_match_22 (by decide) ?_
      exact T_ireturn (pc := 23) rfl rfl dX12_match_23 H
def F_X12_match_29 (d : Nat) (v0 : Option Nm) (v1 : Int32) (v2 : Int32) (v3 : Int32) (v4 : Int32) (h : MH) (u : Nat) (Q : Int32 → MH → Prop) : Prop :=
  gR h v0 11 25 fun x1 =>
  aI .int h x1 v2 fun x2 =>
  if x2 ≤ v4 then
    gR h v0 11 20 fun x3 =>
    aI .int h x3 v1 fun x4 =>
    gR h v0 11 25 fun x5 =>
    aI .int h x5 v2 fun x6 =>
    if ((x4 >>> (x6 &&& 31)) &&& 1) = 1 then
      Q v3 h
    else
      gR h v0 11 21 fun x7 =>
      aI .boolean h x7 v1 fun x8 =>
      if x8 = 0 then
        Q (-5) h
      else
        Q (-3) h
  else
    gR h v0 11 20 fun x9 =>
    aI .int h x9 v1 fun x10 =>
    nm (v3 + ((x10 >>> (v4 &&& 31)) &&& 1)) fun x11 =>
    L_X12_match_29 d v0 v1 v2 x11 (v4 + 1) h u Q
set_option maxRecDepth 20000 in
theorem E_X12_match_29 {d : Nat} {v0 : Option Nm} {v1 : Int32} {v2 : Int32} {v3 : Int32} {v4 : Int32} {h : MH} {u : Nat} {Q : Int32 → MH → Prop} (H : F_X12_match_29 d v0 v1 v2 v3 v4 h u Q) : T u_X12_match (d + 2) 29 [some (jR v0), some (jI v1), some (jI v2), some (jI v3), some (jI v4)] [] h u (qI Q) := by
  unfold F_X12_match_29 at H
  refine T_iload (pc := 29) dX12_match_29 rfl ?_
  refine T_aload_n (pc := 31) dX12_match_31 rfl rfl ?_
  refine T_gR (pc := 32) fa_X12_66 dX12_match_32 (gR_mono (fun x1 H => ?_) H)
  refine T_iload_n (pc := 35) dX12_match_35 rfl rfl ?_
  refine T_aI (pc := 36) dX12_match_36 (aI_mono (fun x2 H => ?_) H)
  refine T_icmp_ge (pc := 37) (tgt := 60) dX12_match_37 (by decide) (fun hc => ?_) (fun hc => ?_)
  · rw [if_pos hc] at H
    refine T_aload_n (pc := 60) dX12_match_60 rfl rfl ?_
    refine T_gR (pc := 61) fa_X12_54 dX12_match_61 (gR_mono (fun x3 H => ?_) H)
    refine T_iload_n (pc := 64) dX12_match_64 rfl rfl ?_
    refine T_aI (pc := 65) dX12_match_65 (aI_mono (fun x4 H => ?_) H)
    refine T_aload_n (pc := 66) dX12_match_66 rfl rfl ?_
    refine T_gR (pc := 67) fa_X12_66 dX12_match_67 (gR_mono (fun x5 H => ?_) H)
    refine T_iload_n (pc := 70) dX12_match_70 rfl rfl ?_
    refine T_aI (pc := 71) dX12_match_71 (aI_mono (fun x6 H => ?_) H)
    refine T_ishr (pc := 72) dX12_match_72 ?_
    refine T_iconst (pc := 73) (v := 1) dX12_match_73 (by decide) ?_
    refine T_iand (pc := 74) dX12_match_74 ?_
    refine T_iconst (pc := 75) (v := 1) dX12_match_75 (by decide) ?_
    refine T_icmp_ne (pc := 76) (tgt := 83) dX12_match_76 (by decide) (fun hc => ?_) (fun hc => ?_)
    · rw [if_neg hc] at H
      refine T_aload_n (pc := 83) dX12_match_83 rfl rfl ?_
      refine T_gR (pc := 84) fa_X12_57 dX12_match_84 (gR_mono (fun x7 H => ?_) H)
      refine T_iload_n (pc := 87) dX12_match_87 rfl rfl ?_
      refine T_aZ (pc := 88) dX12_match_88 (aI_mono (fun x8 H => ?_) H)
      refine T_if_eq (pc := 89) (tgt := 97) dX12_match_89 (by decide) (fun hc => ?_) (fun hc => ?_)
      · rw [if_pos hc] at H
        refine T_bipush (pc := 97) (v := (-5)) dX12_match_97 (by decide) ?_
        exact T_ireturn (pc := 99) rfl rfl dX12_match_99 H
      · rw [if_neg hc] at H
        refine T_bipush (pc := 92) (v := (-3)) dX12_match_92 (by decide) ?_
        refine T_goto (pc := 94) (tgt := 99) dX12_match_94 (by decide) ?_
        exact T_ireturn (pc := 99) rfl rfl dX12_match_99 H
    · rw [if_pos hc] at H
      refine T_iload_n (pc := 79) dX12_match_79 rfl rfl ?_
      refine T_goto (pc := 80) (tgt := 99) dX12_match_80 (by decide) ?_
      exact T_ireturn (pc := 99) rfl rfl dX12_match_99 H
  · rw [if_neg hc] at H
    refine T_iload_n (pc := 40) dX12_match_40 rfl rfl ?_
    refine T_aload_n (pc := 41) dX12_match_41 rfl rfl ?_
    refine T_gR (pc := 42) fa_X12_54 dX12_match_42 (gR_mono (fun x9 H => ?_) H)
    refine T_iload_n (pc := 45) dX12_match_45 rfl rfl ?_
    refine T_aI (pc := 46) dX12_match_46 (aI_mono (fun x10 H => ?_) H)
    refine T_iload (pc := 47) dX12_match_47 rfl ?_
    refine T_ishr (pc := 49) dX12_match_49 ?_
    refine T_iconst (pc := 50) (v := 1) dX12_match_50 (by decide) ?_
    refine T_iand (pc := 51) dX12_match_51 ?_
    refine T_iadd (pc := 52) dX12_match_52 ?_
    refine T_istoreK (pc := 53) (i := 0) (I := .nop) (len := 1) (f := fun x11 => [some (jR v0), some (jI v1), some (jI v2), some (jI x11), some (jI v4)]) (fun x11 k => T_istore_n (pc := 53) dX12_match_53 rfl (Nat.le_of_ble_eq_true rfl) rfl k) (nm_mono (fun x11 H => ?_) H)
    refine T_iinc (pc := 54) (v := v4 + 1) (ls2 := [some (jR v0), some (jI v1), some (jI v2), some (jI x11), some (jI (v4 + 1))]) dX12_match_54 rfl rfl (Nat.le_of_ble_eq_true rfl) rfl ?_
    refine T_goto (pc := 57) (tgt := 29) dX12_match_57 (by decide) ?_
    exact T.forget H ⟨rfl, rfl, rfl, rfl, rfl, trivial⟩
theorem I_X12_match {d : Nat} {v0 : Option Nm} {v1 : Int32} {v2 : Int32} {h : MH} {u : Nat} {K : Int32 → MH → Nat → Prop} (u1 : Nat) (hu : u1 ≤ u) (H : F_X12_match d v0 v1 v2 h u1 (fun x h2 => K x h2 (u - u1))) : iI (d + 2) u_X12_match [jR v0, jI v1, jI v2] h u K := inv.of u1 hu (Ct.of (by decide +kernel) rfl (Nat.le_of_ble_eq_true rfl) rfl (E_X12_match H))
theorem J_X12_match {d : Nat} {v0 : Option Nm} {v1 : Int32} {v2 : Int32} {h : MH} {u : Nat} {K : Int32 → MH → Prop} (H : F_X12_match d v0 v1 v2 h 0 K) : iI (d + 2) u_X12_match [jR v0, jI v1, jI v2] h u (fun x h2 u2 => K x h2 ∧ u2 = u) := jiI (by decide +kernel) rfl (Nat.le_of_ble_eq_true rfl) rfl (E_X12_match H)
theorem dX12_more_0 : decode cX12_more 0 = .ok (.aload_n 0, 1) := by decide +kernel
theorem dX12_more_1 : decode cX12_more 1 = .ok (.iload_n 1, 1) := by decide +kernel
theorem dX12_more_2 : decode cX12_more 2 = .ok (.invokevirtual 206, 3) := by decide +kernel
theorem dX12_more_5 : decode cX12_more 5 = .ok (.ifCond .ne 5, 3) := by decide +kernel
theorem dX12_more_8 : decode cX12_more 8 = .ok (.iconst (-1), 1) := by decide +kernel
theorem dX12_more_9 : decode cX12_more 9 = .ok (.ireturn, 1) := by decide +kernel
theorem dX12_more_10 : decode cX12_more 10 = .ok (.iload_n 2, 1) := by decide +kernel
theorem dX12_more_11 : decode cX12_more 11 = .ok (.iconst 1, 1) := by decide +kernel
theorem dX12_more_12 : decode cX12_more 12 = .ok (.bipush 99, 2) := by decide +kernel
theorem dX12_more_14 : decode cX12_more 14 = .ok (.invokestatic 156, 3) := by decide +kernel
theorem dX12_more_17 : decode cX12_more 17 = .ok (.ifCond .eq 22, 3) := by decide +kernel
theorem dX12_more_20 : decode cX12_more 20 = .ok (.aload_n 0, 1) := by decide +kernel
theorem dX12_more_21 : decode cX12_more 21 = .ok (.getfield 27, 3) := by decide +kernel
theorem dX12_more_24 : decode cX12_more 24 = .ok (.iload_n 1, 1) := by decide +kernel
theorem dX12_more_25 : decode cX12_more 25 = .ok (.baload, 1) := by decide +kernel
theorem dX12_more_26 : decode cX12_more 26 = .ok (.ifCond .ne 16, 3) := by decide +kernel
theorem dX12_more_29 : decode cX12_more 29 = .ok (.iload_n 3, 1) := by decide +kernel
theorem dX12_more_30 : decode cX12_more 30 = .ok (.iconst 0, 1) := by decide +kernel
theorem dX12_more_31 : decode cX12_more 31 = .ok (.bipush 9, 2) := by decide +kernel
theorem dX12_more_33 : decode cX12_more 33 = .ok (.invokestatic 156, 3) := by decide +kernel
theorem dX12_more_36 : decode cX12_more 36 = .ok (.ifCond .ne 6, 3) := by decide +kernel
theorem dX12_more_39 : decode cX12_more 39 = .ok (.bipush (-2), 2) := by decide +kernel
theorem dX12_more_41 : decode cX12_more 41 = .ok (.ireturn, 1) := by decide +kernel
theorem dX12_more_42 : decode cX12_more 42 = .ok (.iconst 4, 1) := by decide +kernel
theorem dX12_more_43 : decode cX12_more 43 = .ok (.iload_n 1, 1) := by decide +kernel
theorem dX12_more_44 : decode cX12_more 44 = .ok (.imul, 1) := by decide +kernel
theorem dX12_more_45 : decode cX12_more 45 = .ok (.istore 4, 2) := by decide +kernel
theorem dX12_more_47 : decode cX12_more 47 = .ok (.aload_n 0, 1) := by decide +kernel
theorem dX12_more_48 : decode cX12_more 48 = .ok (.getfield 33, 3) := by decide +kernel
theorem dX12_more_51 : decode cX12_more 51 = .ok (.iload_n 1, 1) := by decide +kernel
theorem dX12_more_52 : decode cX12_more 52 = .ok (.baload, 1) := by decide +kernel
theorem dX12_more_53 : decode cX12_more 53 = .ok (.ifCond .ne 13, 3) := by decide +kernel
theorem dX12_more_56 : decode cX12_more 56 = .ok (.aload_n 0, 1) := by decide +kernel
theorem dX12_more_57 : decode cX12_more 57 = .ok (.iload 4, 2) := by decide +kernel
theorem dX12_more_59 : decode cX12_more 59 = .ok (.iload_n 2, 1) := by decide +kernel
theorem dX12_more_60 : decode cX12_more 60 = .ok (.invokevirtual 209, 3) := by decide +kernel
theorem dX12_more_63 : decode cX12_more 63 = .ok (.ifCond .lt 6, 3) := by decide +kernel
theorem dX12_more_66 : decode cX12_more 66 = .ok (.bipush (-3), 2) := by decide +kernel
theorem dX12_more_68 : decode cX12_more 68 = .ok (.ireturn, 1) := by decide +kernel
theorem dX12_more_69 : decode cX12_more 69 = .ok (.aload_n 0, 1) := by decide +kernel
theorem dX12_more_70 : decode cX12_more 70 = .ok (.getfield 42, 3) := by decide +kernel
theorem dX12_more_73 : decode cX12_more 73 = .ok (.iload 4, 2) := by decide +kernel
theorem dX12_more_75 : decode cX12_more 75 = .ok (.iaload, 1) := by decide +kernel
theorem dX12_more_76 : decode cX12_more 76 = .ok (.aload_n 0, 1) := by decide +kernel
theorem dX12_more_77 : decode cX12_more 77 = .ok (.getfield 27, 3) := by decide +kernel
theorem dX12_more_80 : decode cX12_more 80 = .ok (.iload_n 1, 1) := by decide +kernel
theorem dX12_more_81 : decode cX12_more 81 = .ok (.baload, 1) := by decide +kernel
theorem dX12_more_82 : decode cX12_more 82 = .ok (.ifCond .eq 8, 3) := by decide +kernel
theorem dX12_more_85 : decode cX12_more 85 = .ok (.bipush 8, 2) := by decide +kernel
theorem dX12_more_87 : decode cX12_more 87 = .ok (.goto 5, 3) := by decide +kernel
theorem dX12_more_90 : decode cX12_more 90 = .ok (.bipush 6, 2) := by decide +kernel
theorem dX12_more_92 : decode cX12_more 92 = .ok (.if_icmp .ne 6, 3) := by decide +kernel
theorem dX12_more_95 : decode cX12_more 95 = .ok (.bipush (-4), 2) := by decide +kernel
theorem dX12_more_97 : decode cX12_more 97 = .ok (.ireturn, 1) := by decide +kernel
theorem dX12_more_98 : decode cX12_more 98 = .ok (.aload_n 0, 1) := by decide +kernel
theorem dX12_more_99 : decode cX12_more 99 = .ok (.getfield 45, 3) := by decide +kernel
theorem dX12_more_102 : decode cX12_more 102 = .ok (.bipush 8, 2) := by decide +kernel
theorem dX12_more_104 : decode cX12_more 104 = .ok (.iload 4, 2) := by decide +kernel
theorem dX12_more_106 : decode cX12_more 106 = .ok (.imul, 1) := by decide +kernel
theorem dX12_more_107 : decode cX12_more 107 = .ok (.aload_n 0, 1) := by decide +kernel
theorem dX12_more_108 : decode cX12_more 108 = .ok (.getfield 42, 3) := by decide +kernel
theorem dX12_more_111 : decode cX12_more 111 = .ok (.iload 4, 2) := by decide +kernel
theorem dX12_more_113 : decode cX12_more 113 = .ok (.iaload, 1) := by decide +kernel
theorem dX12_more_114 : decode cX12_more 114 = .ok (.iadd, 1) := by decide +kernel
theorem dX12_more_115 : decode cX12_more 115 = .ok (.iload_n 2, 1) := by decide +kernel
theorem dX12_more_116 : decode cX12_more 116 = .ok (.iastore, 1) := by decide +kernel
theorem dX12_more_117 : decode cX12_more 117 = .ok (.aload_n 0, 1) := by decide +kernel
theorem dX12_more_118 : decode cX12_more 118 = .ok (.getfield 48, 3) := by decide +kernel
theorem dX12_more_121 : decode cX12_more 121 = .ok (.bipush 8, 2) := by decide +kernel
theorem dX12_more_123 : decode cX12_more 123 = .ok (.iload 4, 2) := by decide +kernel
theorem dX12_more_125 : decode cX12_more 125 = .ok (.imul, 1) := by decide +kernel
theorem dX12_more_126 : decode cX12_more 126 = .ok (.aload_n 0, 1) := by decide +kernel
theorem dX12_more_127 : decode cX12_more 127 = .ok (.getfield 42, 3) := by decide +kernel
theorem dX12_more_130 : decode cX12_more 130 = .ok (.iload 4, 2) := by decide +kernel
theorem dX12_more_132 : decode cX12_more 132 = .ok (.iaload, 1) := by decide +kernel
theorem dX12_more_133 : decode cX12_more 133 = .ok (.iadd, 1) := by decide +kernel
theorem dX12_more_134 : decode cX12_more 134 = .ok (.iload_n 3, 1) := by decide +kernel
theorem dX12_more_135 : decode cX12_more 135 = .ok (.iastore, 1) := by decide +kernel
theorem dX12_more_136 : decode cX12_more 136 = .ok (.aload_n 0, 1) := by decide +kernel
theorem dX12_more_137 : decode cX12_more 137 = .ok (.getfield 42, 3) := by decide +kernel
theorem dX12_more_140 : decode cX12_more 140 = .ok (.iload 4, 2) := by decide +kernel
theorem dX12_more_142 : decode cX12_more 142 = .ok (.dup2, 1) := by decide +kernel
theorem dX12_more_143 : decode cX12_more 143 = .ok (.iaload, 1) := by decide +kernel
theorem dX12_more_144 : decode cX12_more 144 = .ok (.iconst 1, 1) := by decide +kernel
theorem dX12_more_145 : decode cX12_more 145 = .ok (.iadd, 1) := by decide +kernel
theorem dX12_more_146 : decode cX12_more 146 = .ok (.iastore, 1) := by decide +kernel
theorem dX12_more_147 : decode cX12_more 147 = .ok (.aload_n 0, 1) := by decide +kernel
theorem dX12_more_148 : decode cX12_more 148 = .ok (.getfield 42, 3) := by decide +kernel
theorem dX12_more_151 : decode cX12_more 151 = .ok (.iload 4, 2) := by decide +kernel
theorem dX12_more_153 : decode cX12_more 153 = .ok (.iaload, 1) := by decide +kernel
theorem dX12_more_154 : decode cX12_more 154 = .ok (.ireturn, 1) := by decide +kernel
def F_X12_more_92 (d : Nat) (v0 : Option Nm) (v2 : Int32) (v3 : Int32) (v4 : Int32) (s0 : Int32) (s1 : Int32) (h : MH) (u : Nat) (Q : Int32 → MH → Prop) : Prop :=
  if s0 = s1 then
    Q (-4) h
  else
    gR h v0 11 16 fun x1 =>
    gR h v0 11 15 fun x2 =>
    aI .int h x2 v4 fun x3 =>
    sV .int h x1 ((8 * v4) + x3) (jI v2) fun h =>
    gR h v0 11 17 fun x4 =>
    gR h v0 11 15 fun x5 =>
    aI .int h x5 v4 fun x6 =>
    sV .int h x4 ((8 * v4) + x6) (jI v3) fun h =>
    gR h v0 11 15 fun x7 =>
    aI .int h x7 v4 fun x8 =>
    sV .int h x7 v4 (jI (x8 + 1)) fun h =>
    gR h v0 11 15 fun x9 =>
    aI .int h x9 v4 fun x10 =>
    Q x10 h
set_option maxRecDepth 20000 in
theorem E_X12_more_92 {d : Nat} {v0 : Option Nm} {v2 : Int32} {v3 : Int32} {v4 : Int32} {s0 : Int32} {s1 : Int32} {h : MH} {u : Nat} {Q : Int32 → MH → Prop} (H : F_X12_more_92 d v0 v2 v3 v4 s0 s1 h u Q) : T u_X12_more (d + 2) 92 [some (jR v0), none, some (jI v2), some (jI v3), some (jI v4)] [jI s1, jI s0] h u (qI Q) := by
  unfold F_X12_more_92 at H
  refine T_icmp_ne (pc := 92) (tgt := 98) dX12_more_92 (by decide) (fun hc => ?_) (fun hc => ?_)
  · rw [if_neg hc] at H
    refine T_aload_n (pc := 98) dX12_more_98 rfl rfl ?_
    refine T_gR (pc := 99) fa_X12_45 dX12_more_99 (gR_mono (fun x1 H => ?_) H)
    refine T_bipush (pc := 102) (v := 8) dX12_more_102 (by decide) ?_
    refine T_iload (pc := 104) dX12_more_104 rfl ?_
    refine T_imul (pc := 106) dX12_more_106 ?_
    refine T_aload_n (pc := 107) dX12_more_107 rfl rfl ?_
    refine T_gR (pc := 108) fa_X12_42 dX12_more_108 (gR_mono (fun x2 H => ?_) H)
    refine T_iload (pc := 111) dX12_more_111 rfl ?_
    refine T_aI (pc := 113) dX12_more_113 (aI_mono (fun x3 H => ?_) H)
    refine T_iadd (pc := 114) dX12_more_114 ?_
    refine T_iload_n (pc := 115) dX12_more_115 rfl rfl ?_
    refine T_sI (pc := 116) dX12_more_116 (sV_mono (fun h H => ?_) H)
    refine T_aload_n (pc := 117) dX12_more_117 rfl rfl ?_
    refine T_gR (pc := 118) fa_X12_48 dX12_more_118 (gR_mono (fun x4 H => ?_) H)
    refine T_bipush (pc := 121) (v := 8) dX12_more_121 (by decide) ?_
    refine T_iload (pc := 123) dX12_more_123 rfl ?_
    refine T_imul (pc := 125) dX12_more_125 ?_
    refine T_aload_n (pc := 126) dX12_more_126 rfl rfl ?_
    refine T_gR (pc := 127) fa_X12_42 dX12_more_127 (gR_mono (fun x5 H => ?_) H)
    refine T_iload (pc := 130) dX12_more_130 rfl ?_
    refine T_aI (pc := 132) dX12_more_132 (aI_mono (fun x6 H => ?_) H)
    refine T_iadd (pc := 133) dX12_more_133 ?_
    refine T_iload_n (pc := 134) dX12_more_134 rfl rfl ?_
    refine T_sI (pc := 135) dX12_more_135 (sV_mono (fun h H => ?_) H)
    refine T_aload_n (pc := 136) dX12_more_136 rfl rfl ?_
    refine T_gR (pc := 137) fa_X12_42 dX12_more_137 (gR_mono (fun x7 H => ?_) H)
    refine T_iload (pc := 140) dX12_more_140 rfl ?_
    refine T_dup2 (pc := 142) rfl rfl dX12_more_142 ?_
    refine T_aI (pc := 143) dX12_more_143 (aI_mono (fun x8 H => ?_) H)
    refine T_iconst (pc := 144) (v := 1) dX12_more_144 (by decide) ?_
    refine T_iadd (pc := 145) dX12_more_145 ?_
    refine T_sI (pc := 146) dX12_more_146 (sV_mono (fun h H => ?_) H)
    refine T_aload_n (pc := 147) dX12_more_147 rfl rfl ?_
    refine T_gR (pc := 148) fa_X12_42 dX12_more_148 (gR_mono (fun x9 H => ?_) H)
    refine T_iload (pc := 151) dX12_more_151 rfl ?_
    refine T_aI (pc := 153) dX12_more_153 (aI_mono (fun x10 H => ?_) H)
    exact T_ireturn (pc := 154) rfl rfl dX12_more_154 H
  · rw [if_pos hc] at H
    refine T_bipush (pc := 95) (v := (-4)) dX12_more_95 (by decide) ?_
    exact T_ireturn (pc := 97) rfl rfl dX12_more_97 H
def F_X12_more_42 (d : Nat) (v0 : Option Nm) (v1 : Int32) (v2 : Int32) (v3 : Int32) (h : MH) (u : Nat) (Q : Int32 → MH → Prop) : Prop :=
  gR h v0 11 12 fun x1 =>
  aI .boolean h x1 v1 fun x2 =>
  if x2 = 0 then
    rc h v0 11 ∧ F_X12_placeOf (d + 1) v0 (4 * v1) v2 h 0 fun x3 h =>
    if x3 < 0 then
      gR h v0 11 15 fun x4 =>
      aI .int h x4 (4 * v1) fun x5 =>
      gR h v0 11 10 fun x6 =>
      aI .boolean h x6 v1 fun x7 =>
      if x7 = 0 then
        F_X12_more_92 d v0 v2 v3 (4 * v1) x5 6 h u Q
      else
        F_X12_more_92 d v0 v2 v3 (4 * v1) x5 8 h u Q
    else
      Q (-3) h
  else
    Q (-3) h
set_option maxRecDepth 20000 in
theorem E_X12_more_42 {d : Nat} {v0 : Option Nm} {v1 : Int32} {v2 : Int32} {v3 : Int32} {h : MH} {u : Nat} {Q : Int32 → MH → Prop} (H : F_X12_more_42 d v0 v1 v2 v3 h u Q) : T u_X12_more (d + 2) 42 [some (jR v0), some (jI v1), some (jI v2), some (jI v3), none] [] h u (qI Q) := by
  unfold F_X12_more_42 at H
  refine T_iconst (pc := 42) (v := 4) dX12_more_42 (by decide) ?_
  refine T_iload_n (pc := 43) dX12_more_43 rfl rfl ?_
  refine T_imul (pc := 44) dX12_more_44 ?_
  refine T_istore (pc := 45) (ls2 := [some (jR v0), some (jI v1), some (jI v2), some (jI v3), some (jI (4 * v1))]) dX12_more_45 (Nat.le_of_ble_eq_true rfl) rfl ?_
  refine T_aload_n (pc := 47) dX12_more_47 rfl rfl ?_
  refine T_gR (pc := 48) fa_X12_33 dX12_more_48 (gR_mono (fun x1 H => ?_) H)
  refine T_iload_n (pc := 51) dX12_more_51 rfl rfl ?_
  refine T_aZ (pc := 52) dX12_more_52 (aI_mono (fun x2 H => ?_) H)
  refine T_if_ne (pc := 53) (tgt := 66) dX12_more_53 (by decide) (fun hc => ?_) (fun hc => ?_)
  · rw [if_neg hc] at H
    refine T_bipush (pc := 66) (v := (-3)) dX12_more_66 (by decide) ?_
    exact T_ireturn (pc := 68) rfl rfl dX12_more_68 H
  · rw [if_pos hc] at H
    refine T_aload_n (pc := 56) dX12_more_56 rfl rfl ?_
    refine T_iload (pc := 57) dX12_more_57 rfl ?_
    refine T_iload_n (pc := 59) dX12_more_59 rfl rfl ?_
    obtain ⟨H0, H⟩ := H
    refine T_iV (pc := 60) (ci := 11) (av := [jI (4 * v1), jI v2]) (rest := []) (o := v0) dX12_more_60 mf_X12_placeOf c_5_202 c_5_204 pr_X12_placeOf rfl rfl (Nat.le_of_ble_eq_true rfl) rfl H0 (iI_k (iI_m0 (fun x3 h H => ?_) (J_X12_placeOf (d := (d + 1)) H)))
    refine T_if_lt (pc := 63) (tgt := 69) dX12_more_63 (by decide) (fun hc => ?_) (fun hc => ?_)
    · rw [if_pos hc] at H
      refine T_aload_n (pc := 69) dX12_more_69 rfl rfl ?_
      refine T_gR (pc := 70) fa_X12_42 dX12_more_70 (gR_mono (fun x4 H => ?_) H)
      refine T_iload (pc := 73) dX12_more_73 rfl ?_
      refine T_aI (pc := 75) dX12_more_75 (aI_mono (fun x5 H => ?_) H)
      refine T_aload_n (pc := 76) dX12_more_76 rfl rfl ?_
      refine T_gR (pc := 77) fa_X12_27 dX12_more_77 (gR_mono (fun x6 H => ?_) H)
      refine T_iload_n (pc := 80) dX12_more_80 rfl rfl ?_
      refine T_aZ (pc := 81) dX12_more_81 (aI_mono (fun x7 H => ?_) H)
      refine T_if_eq (pc := 82) (tgt := 90) dX12_more_82 (by decide) (fun hc => ?_) (fun hc => ?_)
      · rw [if_pos hc] at H
        refine T_bipush (pc := 90) (v := 6) dX12_more_90 (by decide) ?_
        exact T.forget (E_X12_more_92 H) ⟨rfl, rfl, rfl, rfl, trivial⟩
      · rw [if_neg hc] at H
        refine T_bipush (pc := 85) (v := 8) dX12_more_85 (by decide) ?_
        refine T_goto (pc := 87) (tgt := 92) dX12_more_87 (by decide) ?_
        exact T.forget (E_X12_more_92 H) ⟨rfl, rfl, rfl, rfl, trivial⟩
    · rw [if_neg hc] at H
      refine T_bipush (pc := 66) (v := (-3)) dX12_more_66 (by decide) ?_
      exact T_ireturn (pc := 68) rfl rfl dX12_more_68 H
def F_X12_more (d : Nat) (v0 : Option Nm) (v1 : Int32) (v2 : Int32) (v3 : Int32) (h : MH) (u : Nat) (Q : Int32 → MH → Prop) : Prop :=
  rc h v0 11 ∧ F_X12_isKind d v0 v1 h 0 fun x1 h =>
  if x1 = 0 then
    Q (-1) h
  else
    F_X12_in (d + 1) v2 1 99 h 0 fun x2 h =>
    if x2 = 0 then
      Q (-2) h
    else
      gR h v0 11 10 fun x3 =>
      aI .boolean h x3 v1 fun x4 =>
      if x4 = 0 then
        F_X12_in (d + 1) v3 0 9 h 0 fun x5 h =>
        if x5 = 0 then
          Q (-2) h
        else
          F_X12_more_42 d v0 v1 v2 v3 h u Q
      else
        F_X12_more_42 d v0 v1 v2 v3 h u Q
set_option maxRecDepth 20000 in
theorem E_X12_more {d : Nat} {v0 : Option Nm} {v1 : Int32} {v2 : Int32} {v3 : Int32} {h : MH} {u : Nat} {Q : Int32 → MH → Prop} (H : F_X12_more d v0 v1 v2 v3 h u Q) : T u_X12_more (d + 2) 0 [some (jR v0), some (jI v1), some (jI v2), some (jI v3), none] [] h u (qI Q) := by
  unfold F_X12_more at H
  refine T_aload_n (pc := 0) dX12_more_0 rfl rfl ?_
  refine T_iload_n (pc := 1) dX12_more_1 rfl rfl ?_
  obtain ⟨H0, H⟩ := H
  refine T_iV (pc := 2) (ci := 11) (av := [jI v1]) (rest := []) (o := v0) dX12_more_2 mf_X12_isKind c_5_198 c_5_200 pr_X12_isKind rfl rfl (Nat.le_of_ble_eq_true rfl) rfl H0 (iI_k (iI_m0 (fun x1 h H => ?_) (J_X12_isKind (d := d) H)))
  refine T_if_ne (pc := 5) (tgt := 10) dX12_more_5 (by decide) (fun hc => ?_) (fun hc => ?_)
  · rw [if_neg hc] at H
    refine T_iload_n (pc := 10) dX12_more_10 rfl rfl ?_
    refine T_iconst (pc := 11) (v := 1) dX12_more_11 (by decide) ?_
    refine T_bipush (pc := 12) (v := 99) dX12_more_12 (by decide) ?_
    refine T_invS (pc := 14) (av := [jI v2, jI 1, jI 99]) (rest := []) dX12_more_14 mf_X12_in c_5_86 c_5_87 rfl (Nat.le_of_ble_eq_true rfl) rfl (iI_k (iI_m0 (fun x2 h H => ?_) (J_X12_in (d := (d + 1)) H)))
    refine T_if_eq (pc := 17) (tgt := 39) dX12_more_17 (by decide) (fun hc => ?_) (fun hc => ?_)
    · rw [if_pos hc] at H
      refine T_bipush (pc := 39) (v := (-2)) dX12_more_39 (by decide) ?_
      exact T_ireturn (pc := 41) rfl rfl dX12_more_41 H
    · rw [if_neg hc] at H
      refine T_aload_n (pc := 20) dX12_more_20 rfl rfl ?_
      refine T_gR (pc := 21) fa_X12_27 dX12_more_21 (gR_mono (fun x3 H => ?_) H)
      refine T_iload_n (pc := 24) dX12_more_24 rfl rfl ?_
      refine T_aZ (pc := 25) dX12_more_25 (aI_mono (fun x4 H => ?_) H)
      refine T_if_ne (pc := 26) (tgt := 42) dX12_more_26 (by decide) (fun hc => ?_) (fun hc => ?_)
      · rw [if_neg hc] at H
        exact T.forget (E_X12_more_42 H) ⟨rfl, rfl, rfl, rfl, trivial⟩
      · rw [if_pos hc] at H
        refine T_iload_n (pc := 29) dX12_more_29 rfl rfl ?_
        refine T_iconst (pc := 30) (v := 0) dX12_more_30 (by decide) ?_
        refine T_bipush (pc := 31) (v := 9) dX12_more_31 (by decide) ?_
        refine T_invS (pc := 33) (av := [jI v3, jI 0, jI 9]) (rest := []) dX12_more_33 mf_X12_in c_5_86 c_5_87 rfl (Nat.le_of_ble_eq_true rfl) rfl (iI_k (iI_m0 (fun x5 h H => ?_) (J_X12_in (d := (d + 1)) H)))
        refine T_if_ne (pc := 36) (tgt := 42) dX12_more_36 (by decide) (fun hc => ?_) (fun hc => ?_)
        · rw [if_neg hc] at H
          exact T.forget (E_X12_more_42 H) ⟨rfl, rfl, rfl, rfl, trivial⟩
        · rw [if_pos hc] at H
          refine T_bipush (pc := 39) (v := (-2)) dX12_more_39 (by decide) ?_
          exact T_ireturn (pc := 41) rfl rfl dX12_more_41 H
  · rw [if_pos hc] at H
    refine T_iconst (pc := 8) (v := (-1)) dX12_more_8 (by decide) ?_
    exact T_ireturn (pc := 9) rfl rfl dX12_more_9 H
theorem I_X12_more {d : Nat} {v0 : Option Nm} {v1 : Int32} {v2 : Int32} {v3 : Int32} {h : MH} {u : Nat} {K : Int32 → MH → Nat → Prop} (u1 : Nat) (hu : u1 ≤ u) (H : F_X12_more d v0 v1 v2 v3 h u1 (fun x h2 => K x h2 (u - u1))) : iI (d + 2) u_X12_more [jR v0, jI v1, jI v2, jI v3] h u K := inv.of u1 hu (Ct.of (by decide +kernel) rfl (Nat.le_of_ble_eq_true rfl) rfl (E_X12_more H))
theorem J_X12_more {d : Nat} {v0 : Option Nm} {v1 : Int32} {v2 : Int32} {v3 : Int32} {h : MH} {u : Nat} {K : Int32 → MH → Prop} (H : F_X12_more d v0 v1 v2 v3 h 0 K) : iI (d + 2) u_X12_more [jR v0, jI v1, jI v2, jI v3] h u (fun x h2 u2 => K x h2 ∧ u2 = u) := jiI (by decide +kernel) rfl (Nat.le_of_ble_eq_true rfl) rfl (E_X12_more H)
theorem dX12_named_0 : decode cX12_named 0 = .ok (.aload_n 0, 1) := by decide +kernel
theorem dX12_named_1 : decode cX12_named 1 = .ok (.iload_n 1, 1) := by decide +kernel
theorem dX12_named_2 : decode cX12_named 2 = .ok (.invokevirtual 206, 3) := by decide +kernel
theorem dX12_named_5 : decode cX12_named 5 = .ok (.ifCond .ne 5, 3) := by decide +kernel
theorem dX12_named_8 : decode cX12_named 8 = .ok (.iconst (-1), 1) := by decide +kernel
theorem dX12_named_9 : decode cX12_named 9 = .ok (.ireturn, 1) := by decide +kernel
theorem dX12_named_10 : decode cX12_named 10 = .ok (.aload_n 0, 1) := by decide +kernel
theorem dX12_named_11 : decode cX12_named 11 = .ok (.aload_n 0, 1) := by decide +kernel
theorem dX12_named_12 : decode cX12_named 12 = .ok (.iload_n 1, 1) := by decide +kernel
theorem dX12_named_13 : decode cX12_named 13 = .ok (.invokevirtual 225, 3) := by decide +kernel
theorem dX12_named_16 : decode cX12_named 16 = .ok (.iload_n 2, 1) := by decide +kernel
theorem dX12_named_17 : decode cX12_named 17 = .ok (.invokevirtual 209, 3) := by decide +kernel
theorem dX12_named_20 : decode cX12_named 20 = .ok (.istore_n 3, 1) := by decide +kernel
theorem dX12_named_21 : decode cX12_named 21 = .ok (.aload_n 0, 1) := by decide +kernel
theorem dX12_named_22 : decode cX12_named 22 = .ok (.getfield 27, 3) := by decide +kernel
theorem dX12_named_25 : decode cX12_named 25 = .ok (.iload_n 1, 1) := by decide +kernel
theorem dX12_named_26 : decode cX12_named 26 = .ok (.baload, 1) := by decide +kernel
theorem dX12_named_27 : decode cX12_named 27 = .ok (.ifCond .eq 7, 3) := by decide +kernel
theorem dX12_named_30 : decode cX12_named 30 = .ok (.iload_n 3, 1) := by decide +kernel
theorem dX12_named_31 : decode cX12_named 31 = .ok (.ifCond .ge 6, 3) := by decide +kernel
theorem dX12_named_34 : decode cX12_named 34 = .ok (.bipush (-3), 2) := by decide +kernel
theorem dX12_named_36 : decode cX12_named 36 = .ok (.ireturn, 1) := by decide +kernel
theorem dX12_named_37 : decode cX12_named 37 = .ok (.aload_n 0, 1) := by decide +kernel
theorem dX12_named_38 : decode cX12_named 38 = .ok (.iload_n 1, 1) := by decide +kernel
theorem dX12_named_39 : decode cX12_named 39 = .ok (.invokevirtual 250, 3) := by decide +kernel
theorem dX12_named_42 : decode cX12_named 42 = .ok (.ifCond .eq 21, 3) := by decide +kernel
theorem dX12_named_45 : decode cX12_named 45 = .ok (.aload_n 0, 1) := by decide +kernel
theorem dX12_named_46 : decode cX12_named 46 = .ok (.getfield 51, 3) := by decide +kernel
theorem dX12_named_49 : decode cX12_named 49 = .ok (.bipush 8, 2) := by decide +kernel
theorem dX12_named_51 : decode cX12_named 51 = .ok (.aload_n 0, 1) := by decide +kernel
theorem dX12_named_52 : decode cX12_named 52 = .ok (.iload_n 1, 1) := by decide +kernel
theorem dX12_named_53 : decode cX12_named 53 = .ok (.invokevirtual 225, 3) := by decide +kernel
theorem dX12_named_56 : decode cX12_named 56 = .ok (.imul, 1) := by decide +kernel
theorem dX12_named_57 : decode cX12_named 57 = .ok (.iload_n 3, 1) := by decide +kernel
theorem dX12_named_58 : decode cX12_named 58 = .ok (.iadd, 1) := by decide +kernel
theorem dX12_named_59 : decode cX12_named 59 = .ok (.iaload, 1) := by decide +kernel
theorem dX12_named_60 : decode cX12_named 60 = .ok (.goto 5, 3) := by decide +kernel
theorem dX12_named_63 : decode cX12_named 63 = .ok (.bipush (-4), 2) := by decide +kernel
theorem dX12_named_65 : decode cX12_named 65 = .ok (.ireturn, 1) := by decide +kernel
def F_X12_named (d : Nat) (v0 : Option Nm) (v1 : Int32) (v2 : Int32) (h : MH) (u : Nat) (Q : Int32 → MH → Prop) : Prop :=
  rc h v0 11 ∧ F_X12_isKind (d + 1) v0 v1 h 0 fun x1 h =>
  if x1 = 0 then
    Q (-1) h
  else
    rc h v0 11 ∧ F_X12_newestOf (d + 2) v0 v1 h 0 fun x2 h =>
    rc h v0 11 ∧ F_X12_placeOf (d + 2) v0 x2 v2 h 0 fun x3 h =>
    gR h v0 11 10 fun x4 =>
    aI .boolean h x4 v1 fun x5 =>
    if x5 = 0 then
      Q (-3) h
    else
      if 0 ≤ x3 then
        rc h v0 11 ∧ F_X12_starts d v0 v1 h 0 fun x6 h =>
        if x6 = 0 then
          Q (-4) h
        else
          gR h v0 11 18 fun x7 =>
          rc h v0 11 ∧ F_X12_newestOf (d + 2) v0 v1 h 0 fun x8 h =>
          aI .int h x7 ((8 * x8) + x3) fun x9 =>
          Q x9 h
      else
        Q (-3) h
set_option maxRecDepth 20000 in
theorem E_X12_named {d : Nat} {v0 : Option Nm} {v1 : Int32} {v2 : Int32} {h : MH} {u : Nat} {Q : Int32 → MH → Prop} (H : F_X12_named d v0 v1 v2 h u Q) : T u_X12_named (d + 3) 0 [some (jR v0), some (jI v1), some (jI v2), none] [] h u (qI Q) := by
  unfold F_X12_named at H
  refine T_aload_n (pc := 0) dX12_named_0 rfl rfl ?_
  refine T_iload_n (pc := 1) dX12_named_1 rfl rfl ?_
  obtain ⟨H0, H⟩ := H
  refine T_iV (pc := 2) (ci := 11) (av := [jI v1]) (rest := []) (o := v0) dX12_named_2 mf_X12_isKind c_5_198 c_5_200 pr_X12_isKind rfl rfl (Nat.le_of_ble_eq_true rfl) rfl H0 (iI_k (iI_m0 (fun x1 h H => ?_) (J_X12_isKind (d := (d + 1)) H)))
  refine T_if_ne (pc := 5) (tgt := 10) dX12_named_5 (by decide) (fun hc => ?_) (fun hc => ?_)
  · rw [if_neg hc] at H
    refine T_aload_n (pc := 10) dX12_named_10 rfl rfl ?_
    refine T_aload_n (pc := 11) dX12_named_11 rfl rfl ?_
    refine T_iload_n (pc := 12) dX12_named_12 rfl rfl ?_
    obtain ⟨H0, H⟩ := H
    refine T_iV (pc := 13) (ci := 11) (av := [jI v1]) (rest := [jR v0]) (o := v0) dX12_named_13 mf_X12_newestOf c_5_210 c_5_212 pr_X12_newestOf rfl rfl (Nat.le_of_ble_eq_true rfl) rfl H0 (iI_k (iI_m0 (fun x2 h H => ?_) (J_X12_newestOf (d := (d + 2)) H)))
    refine T_iload_n (pc := 16) dX12_named_16 rfl rfl ?_
    obtain ⟨H0, H⟩ := H
    refine T_iV (pc := 17) (ci := 11) (av := [jI x2, jI v2]) (rest := []) (o := v0) dX12_named_17 mf_X12_placeOf c_5_202 c_5_204 pr_X12_placeOf rfl rfl (Nat.le_of_ble_eq_true rfl) rfl H0 (iI_k (iI_m0 (fun x3 h H => ?_) (J_X12_placeOf (d := (d + 2)) H)))
    refine T_istore_n (pc := 20) (ls2 := [some (jR v0), some (jI v1), some (jI v2), some (jI x3)]) dX12_named_20 rfl (Nat.le_of_ble_eq_true rfl) rfl ?_
    refine T_aload_n (pc := 21) dX12_named_21 rfl rfl ?_
    refine T_gR (pc := 22) fa_X12_27 dX12_named_22 (gR_mono (fun x4 H => ?_) H)
    refine T_iload_n (pc := 25) dX12_named_25 rfl rfl ?_
    refine T_aZ (pc := 26) dX12_named_26 (aI_mono (fun x5 H => ?_) H)
    refine T_if_eq (pc := 27) (tgt := 34) dX12_named_27 (by decide) (fun hc => ?_) (fun hc => ?_)
    · rw [if_pos hc] at H
      refine T_bipush (pc := 34) (v := (-3)) dX12_named_34 (by decide) ?_
      exact T_ireturn (pc := 36) rfl rfl dX12_named_36 H
    · rw [if_neg hc] at H
      refine T_iload_n (pc := 30) dX12_named_30 rfl rfl ?_
      refine T_if_ge (pc := 31) (tgt := 37) dX12_named_31 (by decide) (fun hc => ?_) (fun hc => ?_)
      · rw [if_pos hc] at H
        refine T_aload_n (pc := 37) dX12_named_37 rfl rfl ?_
        refine T_iload_n (pc := 38) dX12_named_38 rfl rfl ?_
        obtain ⟨H0, H⟩ := H
        refine T_iV (pc := 39) (ci := 11) (av := [jI v1]) (rest := []) (o := v0) dX12_named_39 mf_X12_starts c_6_2 c_6_4 pr_X12_starts rfl rfl (Nat.le_of_ble_eq_true rfl) rfl H0 (iI_k (iI_m0 (fun x6 h H => ?_) (J_X12_starts (d := d) H)))
        refine T_if_eq (pc := 42) (tgt := 63) dX12_named_42 (by decide) (fun hc => ?_) (fun hc => ?_)
        · rw [if_pos hc] at H
          refine T_bipush (pc := 63) (v := (-4)) dX12_named_63 (by decide) ?_
          exact T_ireturn (pc := 65) rfl rfl dX12_named_65 H
        · rw [if_neg hc] at H
          refine T_aload_n (pc := 45) dX12_named_45 rfl rfl ?_
          refine T_gR (pc := 46) fa_X12_51 dX12_named_46 (gR_mono (fun x7 H => ?_) H)
          refine T_bipush (pc := 49) (v := 8) dX12_named_49 (by decide) ?_
          refine T_aload_n (pc := 51) dX12_named_51 rfl rfl ?_
          refine T_iload_n (pc := 52) dX12_named_52 rfl rfl ?_
          obtain ⟨H0, H⟩ := H
          refine T_iV (pc := 53) (ci := 11) (av := [jI v1]) (rest := [jI 8, jR x7]) (o := v0) dX12_named_53 mf_X12_newestOf c_5_210 c_5_212 pr_X12_newestOf rfl rfl (Nat.le_of_ble_eq_true rfl) rfl H0 (iI_k (iI_m0 (fun x8 h H => ?_) (J_X12_newestOf (d := (d + 2)) H)))
          refine T_imul (pc := 56) dX12_named_56 ?_
          refine T_iload_n (pc := 57) dX12_named_57 rfl rfl ?_
          refine T_iadd (pc := 58) dX12_named_58 ?_
          refine T_aI (pc := 59) dX12_named_59 (aI_mono (fun x9 H => ?_) H)
          refine T_goto (pc := 60) (tgt := 65) dX12_named_60 (by decide) ?_
          exact T_ireturn (pc := 65) rfl rfl dX12_named_65 H
      · rw [if_neg hc] at H
        refine T_bipush (pc := 34) (v := (-3)) dX12_named_34 (by decide) ?_
        exact T_ireturn (pc := 36) rfl rfl dX12_named_36 H
  · rw [if_pos hc] at H
    refine T_iconst (pc := 8) (v := (-1)) dX12_named_8 (by decide) ?_
    exact T_ireturn (pc := 9) rfl rfl dX12_named_9 H
theorem I_X12_named {d : Nat} {v0 : Option Nm} {v1 : Int32} {v2 : Int32} {h : MH} {u : Nat} {K : Int32 → MH → Nat → Prop} (u1 : Nat) (hu : u1 ≤ u) (H : F_X12_named d v0 v1 v2 h u1 (fun x h2 => K x h2 (u - u1))) : iI (d + 3) u_X12_named [jR v0, jI v1, jI v2] h u K := inv.of u1 hu (Ct.of (by decide +kernel) rfl (Nat.le_of_ble_eq_true rfl) rfl (E_X12_named H))
theorem J_X12_named {d : Nat} {v0 : Option Nm} {v1 : Int32} {v2 : Int32} {h : MH} {u : Nat} {K : Int32 → MH → Prop} (H : F_X12_named d v0 v1 v2 h 0 K) : iI (d + 3) u_X12_named [jR v0, jI v1, jI v2] h u (fun x h2 u2 => K x h2 ∧ u2 = u) := jiI (by decide +kernel) rfl (Nat.le_of_ble_eq_true rfl) rfl (E_X12_named H)
theorem dX12_of_0 : decode cX12_of 0 = .ok (.aload_n 0, 1) := by decide +kernel
theorem dX12_of_1 : decode cX12_of 1 = .ok (.iload_n 1, 1) := by decide +kernel
theorem dX12_of_2 : decode cX12_of 2 = .ok (.invokevirtual 190, 3) := by decide +kernel
theorem dX12_of_5 : decode cX12_of 5 = .ok (.ifCond .ne 5, 3) := by decide +kernel
theorem dX12_of_8 : decode cX12_of 8 = .ok (.iconst (-1), 1) := by decide +kernel
theorem dX12_of_9 : decode cX12_of 9 = .ok (.ireturn, 1) := by decide +kernel
theorem dX12_of_10 : decode cX12_of 10 = .ok (.iload_n 2, 1) := by decide +kernel
theorem dX12_of_11 : decode cX12_of 11 = .ok (.tableswitch 79 0 5 #[37, 44, 51, 58, 65, 72], 37) := by decide +kernel
theorem dX12_of_48 : decode cX12_of 48 = .ok (.aload_n 0, 1) := by decide +kernel
theorem dX12_of_49 : decode cX12_of 49 = .ok (.getfield 66, 3) := by decide +kernel
theorem dX12_of_52 : decode cX12_of 52 = .ok (.iload_n 1, 1) := by decide +kernel
theorem dX12_of_53 : decode cX12_of 53 = .ok (.iaload, 1) := by decide +kernel
theorem dX12_of_54 : decode cX12_of 54 = .ok (.ireturn, 1) := by decide +kernel
theorem dX12_of_55 : decode cX12_of 55 = .ok (.aload_n 0, 1) := by decide +kernel
theorem dX12_of_56 : decode cX12_of 56 = .ok (.getfield 69, 3) := by decide +kernel
theorem dX12_of_59 : decode cX12_of 59 = .ok (.iload_n 1, 1) := by decide +kernel
theorem dX12_of_60 : decode cX12_of 60 = .ok (.iaload, 1) := by decide +kernel
theorem dX12_of_61 : decode cX12_of 61 = .ok (.ireturn, 1) := by decide +kernel
theorem dX12_of_62 : decode cX12_of 62 = .ok (.aload_n 0, 1) := by decide +kernel
theorem dX12_of_63 : decode cX12_of 63 = .ok (.getfield 75, 3) := by decide +kernel
theorem dX12_of_66 : decode cX12_of 66 = .ok (.iload_n 1, 1) := by decide +kernel
theorem dX12_of_67 : decode cX12_of 67 = .ok (.iaload, 1) := by decide +kernel
theorem dX12_of_68 : decode cX12_of 68 = .ok (.ireturn, 1) := by decide +kernel
theorem dX12_of_69 : decode cX12_of 69 = .ok (.aload_n 0, 1) := by decide +kernel
theorem dX12_of_70 : decode cX12_of 70 = .ok (.getfield 72, 3) := by decide +kernel
theorem dX12_of_73 : decode cX12_of 73 = .ok (.iload_n 1, 1) := by decide +kernel
theorem dX12_of_74 : decode cX12_of 74 = .ok (.iaload, 1) := by decide +kernel
theorem dX12_of_75 : decode cX12_of 75 = .ok (.ireturn, 1) := by decide +kernel
theorem dX12_of_76 : decode cX12_of 76 = .ok (.aload_n 0, 1) := by decide +kernel
theorem dX12_of_77 : decode cX12_of 77 = .ok (.getfield 81, 3) := by decide +kernel
theorem dX12_of_80 : decode cX12_of 80 = .ok (.iload_n 1, 1) := by decide +kernel
theorem dX12_of_81 : decode cX12_of 81 = .ok (.iaload, 1) := by decide +kernel
theorem dX12_of_82 : decode cX12_of 82 = .ok (.ireturn, 1) := by decide +kernel
theorem dX12_of_83 : decode cX12_of 83 = .ok (.aload_n 0, 1) := by decide +kernel
theorem dX12_of_84 : decode cX12_of 84 = .ok (.getfield 78, 3) := by decide +kernel
theorem dX12_of_87 : decode cX12_of 87 = .ok (.iload_n 1, 1) := by decide +kernel
theorem dX12_of_88 : decode cX12_of 88 = .ok (.iaload, 1) := by decide +kernel
theorem dX12_of_89 : decode cX12_of 89 = .ok (.ireturn, 1) := by decide +kernel
theorem dX12_of_90 : decode cX12_of 90 = .ok (.bipush (-2), 2) := by decide +kernel
theorem dX12_of_92 : decode cX12_of 92 = .ok (.ireturn, 1) := by decide +kernel
def F_X12_of (d : Nat) (v0 : Option Nm) (v1 : Int32) (v2 : Int32) (h : MH) (u : Nat) (Q : Int32 → MH → Prop) : Prop :=
  rc h v0 11 ∧ F_X12_isValue d v0 v1 h 0 fun x1 h =>
  if x1 = 0 then
    Q (-1) h
  else
    if v2 = 0 then
      gR h v0 11 25 fun x2 =>
      aI .int h x2 v1 fun x3 =>
      Q x3 h
    else if v2 = 1 then
      gR h v0 11 26 fun x4 =>
      aI .int h x4 v1 fun x5 =>
      Q x5 h
    else if v2 = 2 then
      gR h v0 11 28 fun x6 =>
      aI .int h x6 v1 fun x7 =>
      Q x7 h
    else if v2 = 3 then
      gR h v0 11 27 fun x8 =>
      aI .int h x8 v1 fun x9 =>
      Q x9 h
    else if v2 = 4 then
      gR h v0 11 30 fun x10 =>
      aI .int h x10 v1 fun x11 =>
      Q x11 h
    else if v2 = 5 then
      gR h v0 11 29 fun x12 =>
      aI .int h x12 v1 fun x13 =>
      Q x13 h
    else 
      Q (-2) h
set_option maxRecDepth 20000 in
theorem E_X12_of {d : Nat} {v0 : Option Nm} {v1 : Int32} {v2 : Int32} {h : MH} {u : Nat} {Q : Int32 → MH → Prop} (H : F_X12_of d v0 v1 v2 h u Q) : T u_X12_of (d + 2) 0 [some (jR v0), some (jI v1), some (jI v2)] [] h u (qI Q) := by
  unfold F_X12_of at H
  refine T_aload_n (pc := 0) dX12_of_0 rfl rfl ?_
  refine T_iload_n (pc := 1) dX12_of_1 rfl rfl ?_
  obtain ⟨H0, H⟩ := H
  refine T_iV (pc := 2) (ci := 11) (av := [jI v1]) (rest := []) (o := v0) dX12_of_2 mf_X12_isValue c_5_155 c_5_157 pr_X12_isValue rfl rfl (Nat.le_of_ble_eq_true rfl) rfl H0 (iI_k (iI_m0 (fun x1 h H => ?_) (J_X12_isValue (d := d) H)))
  refine T_if_ne (pc := 5) (tgt := 10) dX12_of_5 (by decide) (fun hc => ?_) (fun hc => ?_)
  · rw [if_neg hc] at H
    refine T_iload_n (pc := 10) dX12_of_10 rfl rfl ?_
    by_cases h0 : v2 = 0
    · rw [if_pos h0] at H
      refine T_tableIn (pc := 11) (off := 37) (tgt := 48) dX12_of_11 (by rw [h0]; decide) (by rw [h0]; decide) (by rw [h0]; rfl) (by decide) ?_
      refine T_aload_n (pc := 48) dX12_of_48 rfl rfl ?_
      refine T_gR (pc := 49) fa_X12_66 dX12_of_49 (gR_mono (fun x2 H => ?_) H)
      refine T_iload_n (pc := 52) dX12_of_52 rfl rfl ?_
      refine T_aI (pc := 53) dX12_of_53 (aI_mono (fun x3 H => ?_) H)
      exact T_ireturn (pc := 54) rfl rfl dX12_of_54 H
    rw [if_neg h0] at H
    by_cases h1 : v2 = 1
    · rw [if_pos h1] at H
      refine T_tableIn (pc := 11) (off := 44) (tgt := 55) dX12_of_11 (by rw [h1]; decide) (by rw [h1]; decide) (by rw [h1]; rfl) (by decide) ?_
      refine T_aload_n (pc := 55) dX12_of_55 rfl rfl ?_
      refine T_gR (pc := 56) fa_X12_69 dX12_of_56 (gR_mono (fun x4 H => ?_) H)
      refine T_iload_n (pc := 59) dX12_of_59 rfl rfl ?_
      refine T_aI (pc := 60) dX12_of_60 (aI_mono (fun x5 H => ?_) H)
      exact T_ireturn (pc := 61) rfl rfl dX12_of_61 H
    rw [if_neg h1] at H
    by_cases h2 : v2 = 2
    · rw [if_pos h2] at H
      refine T_tableIn (pc := 11) (off := 51) (tgt := 62) dX12_of_11 (by rw [h2]; decide) (by rw [h2]; decide) (by rw [h2]; rfl) (by decide) ?_
      refine T_aload_n (pc := 62) dX12_of_62 rfl rfl ?_
      refine T_gR (pc := 63) fa_X12_75 dX12_of_63 (gR_mono (fun x6 H => ?_) H)
      refine T_iload_n (pc := 66) dX12_of_66 rfl rfl ?_
      refine T_aI (pc := 67) dX12_of_67 (aI_mono (fun x7 H => ?_) H)
      exact T_ireturn (pc := 68) rfl rfl dX12_of_68 H
    rw [if_neg h2] at H
    by_cases h3 : v2 = 3
    · rw [if_pos h3] at H
      refine T_tableIn (pc := 11) (off := 58) (tgt := 69) dX12_of_11 (by rw [h3]; decide) (by rw [h3]; decide) (by rw [h3]; rfl) (by decide) ?_
      refine T_aload_n (pc := 69) dX12_of_69 rfl rfl ?_
      refine T_gR (pc := 70) fa_X12_72 dX12_of_70 (gR_mono (fun x8 H => ?_) H)
      refine T_iload_n (pc := 73) dX12_of_73 rfl rfl ?_
      refine T_aI (pc := 74) dX12_of_74 (aI_mono (fun x9 H => ?_) H)
      exact T_ireturn (pc := 75) rfl rfl dX12_of_75 H
    rw [if_neg h3] at H
    by_cases h4 : v2 = 4
    · rw [if_pos h4] at H
      refine T_tableIn (pc := 11) (off := 65) (tgt := 76) dX12_of_11 (by rw [h4]; decide) (by rw [h4]; decide) (by rw [h4]; rfl) (by decide) ?_
      refine T_aload_n (pc := 76) dX12_of_76 rfl rfl ?_
      refine T_gR (pc := 77) fa_X12_81 dX12_of_77 (gR_mono (fun x10 H => ?_) H)
      refine T_iload_n (pc := 80) dX12_of_80 rfl rfl ?_
      refine T_aI (pc := 81) dX12_of_81 (aI_mono (fun x11 H => ?_) H)
      exact T_ireturn (pc := 82) rfl rfl dX12_of_82 H
    rw [if_neg h4] at H
    by_cases h5 : v2 = 5
    · rw [if_pos h5] at H
      refine T_tableIn (pc := 11) (off := 72) (tgt := 83) dX12_of_11 (by rw [h5]; decide) (by rw [h5]; decide) (by rw [h5]; rfl) (by decide) ?_
      refine T_aload_n (pc := 83) dX12_of_83 rfl rfl ?_
      refine T_gR (pc := 84) fa_X12_78 dX12_of_84 (gR_mono (fun x12 H => ?_) H)
      refine T_iload_n (pc := 87) dX12_of_87 rfl rfl ?_
      refine T_aI (pc := 88) dX12_of_88 (aI_mono (fun x13 H => ?_) H)
      exact T_ireturn (pc := 89) rfl rfl dX12_of_89 H
    rw [if_neg h5] at H
    have e0 : (v2 : Int32).toInt ≠ 0 := fun q => h0 (Int32.toInt_inj.mp (q.trans (by decide)))
    have e1 : (v2 : Int32).toInt ≠ 1 := fun q => h1 (Int32.toInt_inj.mp (q.trans (by decide)))
    have e2 : (v2 : Int32).toInt ≠ 2 := fun q => h2 (Int32.toInt_inj.mp (q.trans (by decide)))
    have e3 : (v2 : Int32).toInt ≠ 3 := fun q => h3 (Int32.toInt_inj.mp (q.trans (by decide)))
    have e4 : (v2 : Int32).toInt ≠ 4 := fun q => h4 (Int32.toInt_inj.mp (q.trans (by decide)))
    have e5 : (v2 : Int32).toInt ≠ 5 := fun q => h5 (Int32.toInt_inj.mp (q.trans (by decide)))
    refine T_tableOut (pc := 11) (tgt := 90) dX12_of_11 (by omega) (by decide) ?_
    refine T_bipush (pc := 90) (v := (-2)) dX12_of_90 (by decide) ?_
    exact T_ireturn (pc := 92) rfl rfl dX12_of_92 H
  · rw [if_pos hc] at H
    refine T_iconst (pc := 8) (v := (-1)) dX12_of_8 (by decide) ?_
    exact T_ireturn (pc := 9) rfl rfl dX12_of_9 H
theorem I_X12_of {d : Nat} {v0 : Option Nm} {v1 : Int32} {v2 : Int32} {h : MH} {u : Nat} {K : Int32 → MH → Nat → Prop} (u1 : Nat) (hu : u1 ≤ u) (H : F_X12_of d v0 v1 v2 h u1 (fun x h2 => K x h2 (u - u1))) : iI (d + 2) u_X12_of [jR v0, jI v1, jI v2] h u K := inv.of u1 hu (Ct.of (by decide +kernel) rfl (Nat.le_of_ble_eq_true rfl) rfl (E_X12_of H))
theorem J_X12_of {d : Nat} {v0 : Option Nm} {v1 : Int32} {v2 : Int32} {h : MH} {u : Nat} {K : Int32 → MH → Prop} (H : F_X12_of d v0 v1 v2 h 0 K) : iI (d + 2) u_X12_of [jR v0, jI v1, jI v2] h u (fun x h2 u2 => K x h2 ∧ u2 = u) := jiI (by decide +kernel) rfl (Nat.le_of_ble_eq_true rfl) rfl (E_X12_of H)
theorem dX12_order_0 : decode cX12_order 0 = .ok (.aload_n 0, 1) := by decide +kernel
theorem dX12_order_1 : decode cX12_order 1 = .ok (.iload_n 1, 1) := by decide +kernel
theorem dX12_order_2 : decode cX12_order 2 = .ok (.invokevirtual 190, 3) := by decide +kernel
theorem dX12_order_5 : decode cX12_order 5 = .ok (.ifCond .eq 11, 3) := by decide +kernel
theorem dX12_order_8 : decode cX12_order 8 = .ok (.aload_n 0, 1) := by decide +kernel
theorem dX12_order_9 : decode cX12_order 9 = .ok (.iload_n 2, 1) := by decide +kernel
theorem dX12_order_10 : decode cX12_order 10 = .ok (.invokevirtual 190, 3) := by decide +kernel
theorem dX12_order_13 : decode cX12_order 13 = .ok (.ifCond .ne 5, 3) := by decide +kernel
theorem dX12_order_16 : decode cX12_order 16 = .ok (.iconst (-1), 1) := by decide +kernel
theorem dX12_order_17 : decode cX12_order 17 = .ok (.ireturn, 1) := by decide +kernel
theorem dX12_order_18 : decode cX12_order 18 = .ok (.aload_n 0, 1) := by decide +kernel
theorem dX12_order_19 : decode cX12_order 19 = .ok (.iload_n 1, 1) := by decide +kernel
theorem dX12_order_20 : decode cX12_order 20 = .ok (.iload_n 2, 1) := by decide +kernel
theorem dX12_order_21 : decode cX12_order 21 = .ok (.invokevirtual 295, 3) := by decide +kernel
theorem dX12_order_24 : decode cX12_order 24 = .ok (.bipush 100, 2) := by decide +kernel
theorem dX12_order_26 : decode cX12_order 26 = .ok (.isub, 1) := by decide +kernel
theorem dX12_order_27 : decode cX12_order 27 = .ok (.ireturn, 1) := by decide +kernel
def F_X12_order (d : Nat) (v0 : Option Nm) (v1 : Int32) (v2 : Int32) (h : MH) (u : Nat) (Q : Int32 → MH → Prop) : Prop :=
  rc h v0 11 ∧ F_X12_isValue (d + 3) v0 v1 h 0 fun x1 h =>
  if x1 = 0 then
    Q (-1) h
  else
    rc h v0 11 ∧ F_X12_isValue (d + 3) v0 v2 h 0 fun x2 h =>
    if x2 = 0 then
      Q (-1) h
    else
      rc h v0 11 ∧ F_X12_ordered d v0 v1 v2 h 0 fun x3 h =>
      Q (x3 - 100) h
set_option maxRecDepth 20000 in
theorem E_X12_order {d : Nat} {v0 : Option Nm} {v1 : Int32} {v2 : Int32} {h : MH} {u : Nat} {Q : Int32 → MH → Prop} (H : F_X12_order d v0 v1 v2 h u Q) : T u_X12_order (d + 5) 0 [some (jR v0), some (jI v1), some (jI v2)] [] h u (qI Q) := by
  unfold F_X12_order at H
  refine T_aload_n (pc := 0) dX12_order_0 rfl rfl ?_
  refine T_iload_n (pc := 1) dX12_order_1 rfl rfl ?_
  obtain ⟨H0, H⟩ := H
  refine T_iV (pc := 2) (ci := 11) (av := [jI v1]) (rest := []) (o := v0) dX12_order_2 mf_X12_isValue c_5_155 c_5_157 pr_X12_isValue rfl rfl (Nat.le_of_ble_eq_true rfl) rfl H0 (iI_k (iI_m0 (fun x1 h H => ?_) (J_X12_isValue (d := (d + 3)) H)))
  refine T_if_eq (pc := 5) (tgt := 16) dX12_order_5 (by decide) (fun hc => ?_) (fun hc => ?_)
  · rw [if_pos hc] at H
    refine T_iconst (pc := 16) (v := (-1)) dX12_order_16 (by decide) ?_
    exact T_ireturn (pc := 17) rfl rfl dX12_order_17 H
  · rw [if_neg hc] at H
    refine T_aload_n (pc := 8) dX12_order_8 rfl rfl ?_
    refine T_iload_n (pc := 9) dX12_order_9 rfl rfl ?_
    obtain ⟨H0, H⟩ := H
    refine T_iV (pc := 10) (ci := 11) (av := [jI v2]) (rest := []) (o := v0) dX12_order_10 mf_X12_isValue c_5_155 c_5_157 pr_X12_isValue rfl rfl (Nat.le_of_ble_eq_true rfl) rfl H0 (iI_k (iI_m0 (fun x2 h H => ?_) (J_X12_isValue (d := (d + 3)) H)))
    refine T_if_ne (pc := 13) (tgt := 18) dX12_order_13 (by decide) (fun hc => ?_) (fun hc => ?_)
    · rw [if_neg hc] at H
      refine T_aload_n (pc := 18) dX12_order_18 rfl rfl ?_
      refine T_iload_n (pc := 19) dX12_order_19 rfl rfl ?_
      refine T_iload_n (pc := 20) dX12_order_20 rfl rfl ?_
      obtain ⟨H0, H⟩ := H
      refine T_iV (pc := 21) (ci := 11) (av := [jI v1, jI v2]) (rest := []) (o := v0) dX12_order_21 mf_X12_ordered c_6_75 c_6_77 pr_X12_ordered rfl rfl (Nat.le_of_ble_eq_true rfl) rfl H0 (iI_k (iI_m0 (fun x3 h H => ?_) (J_X12_ordered (d := d) H)))
      refine T_bipush (pc := 24) (v := 100) dX12_order_24 (by decide) ?_
      refine T_isub (pc := 26) dX12_order_26 ?_
      exact T_ireturn (pc := 27) rfl rfl dX12_order_27 H
    · rw [if_pos hc] at H
      refine T_iconst (pc := 16) (v := (-1)) dX12_order_16 (by decide) ?_
      exact T_ireturn (pc := 17) rfl rfl dX12_order_17 H
theorem I_X12_order {d : Nat} {v0 : Option Nm} {v1 : Int32} {v2 : Int32} {h : MH} {u : Nat} {K : Int32 → MH → Nat → Prop} (u1 : Nat) (hu : u1 ≤ u) (H : F_X12_order d v0 v1 v2 h u1 (fun x h2 => K x h2 (u - u1))) : iI (d + 5) u_X12_order [jR v0, jI v1, jI v2] h u K := inv.of u1 hu (Ct.of (by decide +kernel) rfl (Nat.le_of_ble_eq_true rfl) rfl (E_X12_order H))
theorem J_X12_order {d : Nat} {v0 : Option Nm} {v1 : Int32} {v2 : Int32} {h : MH} {u : Nat} {K : Int32 → MH → Prop} (H : F_X12_order d v0 v1 v2 h 0 K) : iI (d + 5) u_X12_order [jR v0, jI v1, jI v2] h u (fun x h2 u2 => K x h2 ∧ u2 = u) := jiI (by decide +kernel) rfl (Nat.le_of_ble_eq_true rfl) rfl (E_X12_order H)
theorem dX12_part_0 : decode cX12_part 0 = .ok (.aload_n 0, 1) := by decide +kernel
theorem dX12_part_1 : decode cX12_part 1 = .ok (.iload_n 1, 1) := by decide +kernel
theorem dX12_part_2 : decode cX12_part 2 = .ok (.invokevirtual 190, 3) := by decide +kernel
theorem dX12_part_5 : decode cX12_part 5 = .ok (.ifCond .eq 11, 3) := by decide +kernel
theorem dX12_part_8 : decode cX12_part 8 = .ok (.aload_n 0, 1) := by decide +kernel
theorem dX12_part_9 : decode cX12_part 9 = .ok (.iload_n 1, 1) := by decide +kernel
theorem dX12_part_10 : decode cX12_part 10 = .ok (.invokevirtual 261, 3) := by decide +kernel
theorem dX12_part_13 : decode cX12_part 13 = .ok (.ifCond .eq 7, 3) := by decide +kernel
theorem dX12_part_16 : decode cX12_part 16 = .ok (.invokestatic 124, 3) := by decide +kernel
theorem dX12_part_19 : decode cX12_part 19 = .ok (.lreturn, 1) := by decide +kernel
theorem dX12_part_20 : decode cX12_part 20 = .ok (.iload_n 2, 1) := by decide +kernel
theorem dX12_part_21 : decode cX12_part 21 = .ok (.iconst 0, 1) := by decide +kernel
theorem dX12_part_22 : decode cX12_part 22 = .ok (.aload_n 0, 1) := by decide +kernel
theorem dX12_part_23 : decode cX12_part 23 = .ok (.iload_n 1, 1) := by decide +kernel
theorem dX12_part_24 : decode cX12_part 24 = .ok (.invokevirtual 264, 3) := by decide +kernel
theorem dX12_part_27 : decode cX12_part 27 = .ok (.iconst 1, 1) := by decide +kernel
theorem dX12_part_28 : decode cX12_part 28 = .ok (.isub, 1) := by decide +kernel
theorem dX12_part_29 : decode cX12_part 29 = .ok (.invokestatic 156, 3) := by decide +kernel
theorem dX12_part_32 : decode cX12_part 32 = .ok (.ifCond .eq 12, 3) := by decide +kernel
theorem dX12_part_35 : decode cX12_part 35 = .ok (.aload_n 0, 1) := by decide +kernel
theorem dX12_part_36 : decode cX12_part 36 = .ok (.iload_n 1, 1) := by decide +kernel
theorem dX12_part_37 : decode cX12_part 37 = .ok (.iload_n 2, 1) := by decide +kernel
theorem dX12_part_38 : decode cX12_part 38 = .ok (.invokevirtual 267, 3) := by decide +kernel
theorem dX12_part_41 : decode cX12_part 41 = .ok (.goto 8, 3) := by decide +kernel
theorem dX12_part_44 : decode cX12_part 44 = .ok (.aload_n 0, 1) := by decide +kernel
theorem dX12_part_45 : decode cX12_part 45 = .ok (.iconst 2, 1) := by decide +kernel
theorem dX12_part_46 : decode cX12_part 46 = .ok (.invokevirtual 186, 3) := by decide +kernel
theorem dX12_part_49 : decode cX12_part 49 = .ok (.lreturn, 1) := by decide +kernel
def F_X12_part (d : Nat) (v0 : Option Nm) (v1 : Int32) (v2 : Int32) (h : MH) (u : Nat) (Q : Int64 → MH → Prop) : Prop :=
  rc h v0 11 ∧ F_X12_isValue (d + 1) v0 v1 h 0 fun x1 h =>
  if x1 = 0 then
    F_X12_lost (d + 2)  h 0 fun x2 h =>
    Q x2 h
  else
    rc h v0 11 ∧ F_X12_isConstant (d + 2) v0 v1 h 0 fun x3 h =>
    if x3 = 0 then
      rc h v0 11 ∧ F_X12_partsOf (d + 1) v0 v1 h 0 fun x4 h =>
      F_X12_in (d + 2) v2 0 (x4 - 1) h 0 fun x5 h =>
      if x5 = 0 then
        rc h v0 11 ∧ F_X12_failsLong (d + 1) v0 2 h 0 fun x6 h =>
        Q x6 h
      else
        rc h v0 11 ∧ F_X12_toldPart d v0 v1 v2 h 0 fun x7 h =>
        Q x7 h
    else
      F_X12_lost (d + 2)  h 0 fun x8 h =>
      Q x8 h
set_option maxRecDepth 20000 in
theorem E_X12_part {d : Nat} {v0 : Option Nm} {v1 : Int32} {v2 : Int32} {h : MH} {u : Nat} {Q : Int64 → MH → Prop} (H : F_X12_part d v0 v1 v2 h u Q) : T u_X12_part (d + 3) 0 [some (jR v0), some (jI v1), some (jI v2)] [] h u (qL Q) := by
  unfold F_X12_part at H
  refine T_aload_n (pc := 0) dX12_part_0 rfl rfl ?_
  refine T_iload_n (pc := 1) dX12_part_1 rfl rfl ?_
  obtain ⟨H0, H⟩ := H
  refine T_iV (pc := 2) (ci := 11) (av := [jI v1]) (rest := []) (o := v0) dX12_part_2 mf_X12_isValue c_5_155 c_5_157 pr_X12_isValue rfl rfl (Nat.le_of_ble_eq_true rfl) rfl H0 (iI_k (iI_m0 (fun x1 h H => ?_) (J_X12_isValue (d := (d + 1)) H)))
  refine T_if_eq (pc := 5) (tgt := 16) dX12_part_5 (by decide) (fun hc => ?_) (fun hc => ?_)
  · rw [if_pos hc] at H
    refine T_invS (pc := 16) (av := []) (rest := []) dX12_part_16 mf_X12_lost c_5_143 c_5_144 rfl (Nat.le_of_ble_eq_true rfl) rfl (iL_k (iL_m0 (fun x2 h H => ?_) (J_X12_lost (d := (d + 2)) H)))
    exact T_lreturn (pc := 19) rfl dX12_part_19 H
  · rw [if_neg hc] at H
    refine T_aload_n (pc := 8) dX12_part_8 rfl rfl ?_
    refine T_iload_n (pc := 9) dX12_part_9 rfl rfl ?_
    obtain ⟨H0, H⟩ := H
    refine T_iV (pc := 10) (ci := 11) (av := [jI v1]) (rest := []) (o := v0) dX12_part_10 mf_X12_isConstant c_6_34 c_6_36 pr_X12_isConstant rfl rfl (Nat.le_of_ble_eq_true rfl) rfl H0 (iI_k (iI_m0 (fun x3 h H => ?_) (J_X12_isConstant (d := (d + 2)) H)))
    refine T_if_eq (pc := 13) (tgt := 20) dX12_part_13 (by decide) (fun hc => ?_) (fun hc => ?_)
    · rw [if_pos hc] at H
      refine T_iload_n (pc := 20) dX12_part_20 rfl rfl ?_
      refine T_iconst (pc := 21) (v := 0) dX12_part_21 (by decide) ?_
      refine T_aload_n (pc := 22) dX12_part_22 rfl rfl ?_
      refine T_iload_n (pc := 23) dX12_part_23 rfl rfl ?_
      obtain ⟨H0, H⟩ := H
      refine T_iV (pc := 24) (ci := 11) (av := [jI v1]) (rest := [jI 0, jI v2]) (o := v0) dX12_part_24 mf_X12_partsOf c_6_38 c_6_40 pr_X12_partsOf rfl rfl (Nat.le_of_ble_eq_true rfl) rfl H0 (iI_k (iI_m0 (fun x4 h H => ?_) (J_X12_partsOf (d := (d + 1)) H)))
      refine T_iconst (pc := 27) (v := 1) dX12_part_27 (by decide) ?_
      refine T_isub (pc := 28) dX12_part_28 ?_
      refine T_invS (pc := 29) (av := [jI v2, jI 0, jI (x4 - 1)]) (rest := []) dX12_part_29 mf_X12_in c_5_86 c_5_87 rfl (Nat.le_of_ble_eq_true rfl) rfl (iI_k (iI_m0 (fun x5 h H => ?_) (J_X12_in (d := (d + 2)) H)))
      refine T_if_eq (pc := 32) (tgt := 44) dX12_part_32 (by decide) (fun hc => ?_) (fun hc => ?_)
      · rw [if_pos hc] at H
        refine T_aload_n (pc := 44) dX12_part_44 rfl rfl ?_
        refine T_iconst (pc := 45) (v := 2) dX12_part_45 (by decide) ?_
        obtain ⟨H0, H⟩ := H
        refine T_iV (pc := 46) (ci := 11) (av := [jI 2]) (rest := []) (o := v0) dX12_part_46 mf_X12_failsLong c_5_147 c_5_149 pr_X12_failsLong rfl rfl (Nat.le_of_ble_eq_true rfl) rfl H0 (iL_k (iL_m0 (fun x6 h H => ?_) (J_X12_failsLong (d := (d + 1)) H)))
        exact T_lreturn (pc := 49) rfl dX12_part_49 H
      · rw [if_neg hc] at H
        refine T_aload_n (pc := 35) dX12_part_35 rfl rfl ?_
        refine T_iload_n (pc := 36) dX12_part_36 rfl rfl ?_
        refine T_iload_n (pc := 37) dX12_part_37 rfl rfl ?_
        obtain ⟨H0, H⟩ := H
        refine T_iV (pc := 38) (ci := 11) (av := [jI v1, jI v2]) (rest := []) (o := v0) dX12_part_38 mf_X12_toldPart c_6_46 c_6_48 pr_X12_toldPart rfl rfl (Nat.le_of_ble_eq_true rfl) rfl H0 (iL_k (iL_m0 (fun x7 h H => ?_) (J_X12_toldPart (d := d) H)))
        refine T_goto (pc := 41) (tgt := 49) dX12_part_41 (by decide) ?_
        exact T_lreturn (pc := 49) rfl dX12_part_49 H
    · rw [if_neg hc] at H
      refine T_invS (pc := 16) (av := []) (rest := []) dX12_part_16 mf_X12_lost c_5_143 c_5_144 rfl (Nat.le_of_ble_eq_true rfl) rfl (iL_k (iL_m0 (fun x8 h H => ?_) (J_X12_lost (d := (d + 2)) H)))
      exact T_lreturn (pc := 19) rfl dX12_part_19 H
theorem I_X12_part {d : Nat} {v0 : Option Nm} {v1 : Int32} {v2 : Int32} {h : MH} {u : Nat} {K : Int64 → MH → Nat → Prop} (u1 : Nat) (hu : u1 ≤ u) (H : F_X12_part d v0 v1 v2 h u1 (fun x h2 => K x h2 (u - u1))) : iL (d + 3) u_X12_part [jR v0, jI v1, jI v2] h u K := inv.of u1 hu (Ct.of (by decide +kernel) rfl (Nat.le_of_ble_eq_true rfl) rfl (E_X12_part H))
theorem J_X12_part {d : Nat} {v0 : Option Nm} {v1 : Int32} {v2 : Int32} {h : MH} {u : Nat} {K : Int64 → MH → Prop} (H : F_X12_part d v0 v1 v2 h 0 K) : iL (d + 3) u_X12_part [jR v0, jI v1, jI v2] h u (fun x h2 u2 => K x h2 ∧ u2 = u) := jiL (by decide +kernel) rfl (Nat.le_of_ble_eq_true rfl) rfl (E_X12_part H)
theorem dX12_put_0 : decode cX12_put 0 = .ok (.aload_n 0, 1) := by decide +kernel
theorem dX12_put_1 : decode cX12_put 1 = .ok (.iload_n 1, 1) := by decide +kernel
theorem dX12_put_2 : decode cX12_put 2 = .ok (.invokevirtual 170, 3) := by decide +kernel
theorem dX12_put_5 : decode cX12_put 5 = .ok (.ifCond .ne 5, 3) := by decide +kernel
theorem dX12_put_8 : decode cX12_put 8 = .ok (.iconst (-1), 1) := by decide +kernel
theorem dX12_put_9 : decode cX12_put 9 = .ok (.ireturn, 1) := by decide +kernel
theorem dX12_put_10 : decode cX12_put 10 = .ok (.iload_n 3, 1) := by decide +kernel
theorem dX12_put_11 : decode cX12_put 11 = .ok (.iconst 0, 1) := by decide +kernel
theorem dX12_put_12 : decode cX12_put 12 = .ok (.bipush 7, 2) := by decide +kernel
theorem dX12_put_14 : decode cX12_put 14 = .ok (.invokestatic 156, 3) := by decide +kernel
theorem dX12_put_17 : decode cX12_put 17 = .ok (.ifCond .ne 6, 3) := by decide +kernel
theorem dX12_put_20 : decode cX12_put 20 = .ok (.bipush (-2), 2) := by decide +kernel
theorem dX12_put_22 : decode cX12_put 22 = .ok (.ireturn, 1) := by decide +kernel
theorem dX12_put_23 : decode cX12_put 23 = .ok (.aload_n 0, 1) := by decide +kernel
theorem dX12_put_24 : decode cX12_put 24 = .ok (.getfield 7, 3) := by decide +kernel
theorem dX12_put_27 : decode cX12_put 27 = .ok (.iload_n 1, 1) := by decide +kernel
theorem dX12_put_28 : decode cX12_put 28 = .ok (.iaload, 1) := by decide +kernel
theorem dX12_put_29 : decode cX12_put 29 = .ok (.bipush 8, 2) := by decide +kernel
theorem dX12_put_31 : decode cX12_put 31 = .ok (.if_icmp .ne 9, 3) := by decide +kernel
theorem dX12_put_34 : decode cX12_put 34 = .ok (.aload_n 0, 1) := by decide +kernel
theorem dX12_put_35 : decode cX12_put 35 = .ok (.iconst 3, 1) := by decide +kernel
theorem dX12_put_36 : decode cX12_put 36 = .ok (.invokevirtual 166, 3) := by decide +kernel
theorem dX12_put_39 : decode cX12_put 39 = .ok (.ireturn, 1) := by decide +kernel
theorem dX12_put_40 : decode cX12_put 40 = .ok (.iload_n 2, 1) := by decide +kernel
theorem dX12_put_41 : decode cX12_put 41 = .ok (.iconst 0, 1) := by decide +kernel
theorem dX12_put_42 : decode cX12_put 42 = .ok (.aload_n 0, 1) := by decide +kernel
theorem dX12_put_43 : decode cX12_put 43 = .ok (.getfield 13, 3) := by decide +kernel
theorem dX12_put_46 : decode cX12_put 46 = .ok (.iload_n 1, 1) := by decide +kernel
theorem dX12_put_47 : decode cX12_put 47 = .ok (.iaload, 1) := by decide +kernel
theorem dX12_put_48 : decode cX12_put 48 = .ok (.iconst 1, 1) := by decide +kernel
theorem dX12_put_49 : decode cX12_put 49 = .ok (.isub, 1) := by decide +kernel
theorem dX12_put_50 : decode cX12_put 50 = .ok (.invokestatic 156, 3) := by decide +kernel
theorem dX12_put_53 : decode cX12_put 53 = .ok (.ifCond .ne 9, 3) := by decide +kernel
theorem dX12_put_56 : decode cX12_put 56 = .ok (.aload_n 0, 1) := by decide +kernel
theorem dX12_put_57 : decode cX12_put 57 = .ok (.iconst 2, 1) := by decide +kernel
theorem dX12_put_58 : decode cX12_put 58 = .ok (.invokevirtual 166, 3) := by decide +kernel
theorem dX12_put_61 : decode cX12_put 61 = .ok (.ireturn, 1) := by decide +kernel
theorem dX12_put_62 : decode cX12_put 62 = .ok (.iload_n 3, 1) := by decide +kernel
theorem dX12_put_63 : decode cX12_put 63 = .ok (.aload_n 0, 1) := by decide +kernel
theorem dX12_put_64 : decode cX12_put 64 = .ok (.getfield 7, 3) := by decide +kernel
theorem dX12_put_67 : decode cX12_put 67 = .ok (.iload_n 1, 1) := by decide +kernel
theorem dX12_put_68 : decode cX12_put 68 = .ok (.iaload, 1) := by decide +kernel
theorem dX12_put_69 : decode cX12_put 69 = .ok (.invokestatic 174, 3) := by decide +kernel
theorem dX12_put_72 : decode cX12_put 72 = .ok (.ifCond .ne 9, 3) := by decide +kernel
theorem dX12_put_75 : decode cX12_put 75 = .ok (.aload_n 0, 1) := by decide +kernel
theorem dX12_put_76 : decode cX12_put 76 = .ok (.iconst 3, 1) := by decide +kernel
theorem dX12_put_77 : decode cX12_put 77 = .ok (.invokevirtual 166, 3) := by decide +kernel
theorem dX12_put_80 : decode cX12_put 80 = .ok (.ireturn, 1) := by decide +kernel
theorem dX12_put_81 : decode cX12_put 81 = .ok (.aload_n 0, 1) := by decide +kernel
theorem dX12_put_82 : decode cX12_put 82 = .ok (.getfield 20, 3) := by decide +kernel
theorem dX12_put_85 : decode cX12_put 85 = .ok (.bipush 20, 2) := by decide +kernel
theorem dX12_put_87 : decode cX12_put 87 = .ok (.iload_n 1, 1) := by decide +kernel
theorem dX12_put_88 : decode cX12_put 88 = .ok (.imul, 1) := by decide +kernel
theorem dX12_put_89 : decode cX12_put 89 = .ok (.iload_n 2, 1) := by decide +kernel
theorem dX12_put_90 : decode cX12_put 90 = .ok (.iadd, 1) := by decide +kernel
theorem dX12_put_91 : decode cX12_put 91 = .ok (.iload_n 3, 1) := by decide +kernel
theorem dX12_put_92 : decode cX12_put 92 = .ok (.aload_n 0, 1) := by decide +kernel
theorem dX12_put_93 : decode cX12_put 93 = .ok (.getfield 7, 3) := by decide +kernel
theorem dX12_put_96 : decode cX12_put 96 = .ok (.iload_n 1, 1) := by decide +kernel
theorem dX12_put_97 : decode cX12_put 97 = .ok (.iaload, 1) := by decide +kernel
theorem dX12_put_98 : decode cX12_put 98 = .ok (.iload_n 3, 1) := by decide +kernel
theorem dX12_put_99 : decode cX12_put 99 = .ok (.lload 4, 2) := by decide +kernel
theorem dX12_put_101 : decode cX12_put 101 = .ok (.invokestatic 178, 3) := by decide +kernel
theorem dX12_put_104 : decode cX12_put 104 = .ok (.invokestatic 182, 3) := by decide +kernel
theorem dX12_put_107 : decode cX12_put 107 = .ok (.lastore, 1) := by decide +kernel
theorem dX12_put_108 : decode cX12_put 108 = .ok (.iconst 1, 1) := by decide +kernel
theorem dX12_put_109 : decode cX12_put 109 = .ok (.ireturn, 1) := by decide +kernel
def F_X12_put (d : Nat) (v0 : Option Nm) (v1 : Int32) (v2 : Int32) (v3 : Int32) (v4 : Int64) (h : MH) (u : Nat) (Q : Int32 → MH → Prop) : Prop :=
  rc h v0 11 ∧ F_X12_isRow (d + 1) v0 v1 h 0 fun x1 h =>
  if x1 = 0 then
    Q (-1) h
  else
    F_X12_in (d + 2) v3 0 7 h 0 fun x2 h =>
    if x2 = 0 then
      Q (-2) h
    else
      gR h v0 11 4 fun x3 =>
      aI .int h x3 v1 fun x4 =>
      if x4 = 8 then
        rc h v0 11 ∧ F_X12_fails (d + 2) v0 3 h 0 fun x18 h =>
        Q x18 h
      else
        gR h v0 11 5 fun x5 =>
        aI .int h x5 v1 fun x6 =>
        F_X12_in (d + 2) v2 0 (x6 - 1) h 0 fun x7 h =>
        if x7 = 0 then
          rc h v0 11 ∧ F_X12_fails (d + 2) v0 2 h 0 fun x17 h =>
          Q x17 h
        else
          gR h v0 11 4 fun x8 =>
          aI .int h x8 v1 fun x9 =>
          F_X12_isWidened (d + 2) v3 x9 h 0 fun x10 h =>
          if x10 = 0 then
            rc h v0 11 ∧ F_X12_fails (d + 2) v0 3 h 0 fun x16 h =>
            Q x16 h
          else
            gR h v0 11 7 fun x11 =>
            gR h v0 11 4 fun x12 =>
            aI .int h x12 v1 fun x13 =>
            F_X12_comes d v3 v4 h 0 fun x14 h =>
            F_X12_widened d v3 x13 x14 h 0 fun x15 h =>
            sV .long h x11 ((20 * v1) + v2) (jL x15) fun h =>
            Q 1 h
set_option maxRecDepth 20000 in
theorem E_X12_put {d : Nat} {v0 : Option Nm} {v1 : Int32} {v2 : Int32} {v3 : Int32} {v4 : Int64} {h : MH} {u : Nat} {Q : Int32 → MH → Prop} (H : F_X12_put d v0 v1 v2 v3 v4 h u Q) : T u_X12_put (d + 3) 0 [some (jR v0), some (jI v1), some (jI v2), some (jI v3), some (jL v4), none] [] h u (qI Q) := by
  unfold F_X12_put at H
  refine T_aload_n (pc := 0) dX12_put_0 rfl rfl ?_
  refine T_iload_n (pc := 1) dX12_put_1 rfl rfl ?_
  obtain ⟨H0, H⟩ := H
  refine T_iV (pc := 2) (ci := 11) (av := [jI v1]) (rest := []) (o := v0) dX12_put_2 mf_X12_isRow c_5_102 c_5_104 pr_X12_isRow rfl rfl (Nat.le_of_ble_eq_true rfl) rfl H0 (iI_k (iI_m0 (fun x1 h H => ?_) (J_X12_isRow (d := (d + 1)) H)))
  refine T_if_ne (pc := 5) (tgt := 10) dX12_put_5 (by decide) (fun hc => ?_) (fun hc => ?_)
  · rw [if_neg hc] at H
    refine T_iload_n (pc := 10) dX12_put_10 rfl rfl ?_
    refine T_iconst (pc := 11) (v := 0) dX12_put_11 (by decide) ?_
    refine T_bipush (pc := 12) (v := 7) dX12_put_12 (by decide) ?_
    refine T_invS (pc := 14) (av := [jI v3, jI 0, jI 7]) (rest := []) dX12_put_14 mf_X12_in c_5_86 c_5_87 rfl (Nat.le_of_ble_eq_true rfl) rfl (iI_k (iI_m0 (fun x2 h H => ?_) (J_X12_in (d := (d + 2)) H)))
    refine T_if_ne (pc := 17) (tgt := 23) dX12_put_17 (by decide) (fun hc => ?_) (fun hc => ?_)
    · rw [if_neg hc] at H
      refine T_aload_n (pc := 23) dX12_put_23 rfl rfl ?_
      refine T_gR (pc := 24) fa_X12_7 dX12_put_24 (gR_mono (fun x3 H => ?_) H)
      refine T_iload_n (pc := 27) dX12_put_27 rfl rfl ?_
      refine T_aI (pc := 28) dX12_put_28 (aI_mono (fun x4 H => ?_) H)
      refine T_bipush (pc := 29) (v := 8) dX12_put_29 (by decide) ?_
      refine T_icmp_ne (pc := 31) (tgt := 40) dX12_put_31 (by decide) (fun hc => ?_) (fun hc => ?_)
      · rw [if_neg hc] at H
        refine T_iload_n (pc := 40) dX12_put_40 rfl rfl ?_
        refine T_iconst (pc := 41) (v := 0) dX12_put_41 (by decide) ?_
        refine T_aload_n (pc := 42) dX12_put_42 rfl rfl ?_
        refine T_gR (pc := 43) fa_X12_13 dX12_put_43 (gR_mono (fun x5 H => ?_) H)
        refine T_iload_n (pc := 46) dX12_put_46 rfl rfl ?_
        refine T_aI (pc := 47) dX12_put_47 (aI_mono (fun x6 H => ?_) H)
        refine T_iconst (pc := 48) (v := 1) dX12_put_48 (by decide) ?_
        refine T_isub (pc := 49) dX12_put_49 ?_
        refine T_invS (pc := 50) (av := [jI v2, jI 0, jI (x6 - 1)]) (rest := []) dX12_put_50 mf_X12_in c_5_86 c_5_87 rfl (Nat.le_of_ble_eq_true rfl) rfl (iI_k (iI_m0 (fun x7 h H => ?_) (J_X12_in (d := (d + 2)) H)))
        refine T_if_ne (pc := 53) (tgt := 62) dX12_put_53 (by decide) (fun hc => ?_) (fun hc => ?_)
        · rw [if_neg hc] at H
          refine T_iload_n (pc := 62) dX12_put_62 rfl rfl ?_
          refine T_aload_n (pc := 63) dX12_put_63 rfl rfl ?_
          refine T_gR (pc := 64) fa_X12_7 dX12_put_64 (gR_mono (fun x8 H => ?_) H)
          refine T_iload_n (pc := 67) dX12_put_67 rfl rfl ?_
          refine T_aI (pc := 68) dX12_put_68 (aI_mono (fun x9 H => ?_) H)
          refine T_invS (pc := 69) (av := [jI v3, jI x9]) (rest := []) dX12_put_69 mf_X12_isWidened c_5_106 c_5_107 rfl (Nat.le_of_ble_eq_true rfl) rfl (iI_k (iI_m0 (fun x10 h H => ?_) (J_X12_isWidened (d := (d + 2)) H)))
          refine T_if_ne (pc := 72) (tgt := 81) dX12_put_72 (by decide) (fun hc => ?_) (fun hc => ?_)
          · rw [if_neg hc] at H
            refine T_aload_n (pc := 81) dX12_put_81 rfl rfl ?_
            refine T_gR (pc := 82) fa_X12_20 dX12_put_82 (gR_mono (fun x11 H => ?_) H)
            refine T_bipush (pc := 85) (v := 20) dX12_put_85 (by decide) ?_
            refine T_iload_n (pc := 87) dX12_put_87 rfl rfl ?_
            refine T_imul (pc := 88) dX12_put_88 ?_
            refine T_iload_n (pc := 89) dX12_put_89 rfl rfl ?_
            refine T_iadd (pc := 90) dX12_put_90 ?_
            refine T_iload_n (pc := 91) dX12_put_91 rfl rfl ?_
            refine T_aload_n (pc := 92) dX12_put_92 rfl rfl ?_
            refine T_gR (pc := 93) fa_X12_7 dX12_put_93 (gR_mono (fun x12 H => ?_) H)
            refine T_iload_n (pc := 96) dX12_put_96 rfl rfl ?_
            refine T_aI (pc := 97) dX12_put_97 (aI_mono (fun x13 H => ?_) H)
            refine T_iload_n (pc := 98) dX12_put_98 rfl rfl ?_
            refine T_lload (pc := 99) dX12_put_99 rfl ?_
            refine T_invS (pc := 101) (av := [jI v3, jL v4]) (rest := [jI x13, jI v3, jI ((20 * v1) + v2), jR x11]) dX12_put_101 mf_X12_comes c_5_109 c_5_110 rfl (Nat.le_of_ble_eq_true rfl) rfl (iL_k (iL_m0 (fun x14 h H => ?_) (J_X12_comes (d := d) H)))
            refine T_invS (pc := 104) (av := [jI v3, jI x13, jL x14]) (rest := [jI ((20 * v1) + v2), jR x11]) dX12_put_104 mf_X12_widened c_5_133 c_5_134 rfl (Nat.le_of_ble_eq_true rfl) rfl (iL_k (iL_m0 (fun x15 h H => ?_) (J_X12_widened (d := d) H)))
            refine T_sL (pc := 107) dX12_put_107 (sV_mono (fun h H => ?_) H)
            refine T_iconst (pc := 108) (v := 1) dX12_put_108 (by decide) ?_
            exact T_ireturn (pc := 109) rfl rfl dX12_put_109 H
          · rw [if_pos hc] at H
            refine T_aload_n (pc := 75) dX12_put_75 rfl rfl ?_
            refine T_iconst (pc := 76) (v := 3) dX12_put_76 (by decide) ?_
            obtain ⟨H0, H⟩ := H
            refine T_iV (pc := 77) (ci := 11) (av := [jI 3]) (rest := []) (o := v0) dX12_put_77 mf_X12_fails c_5_89 c_5_91 pr_X12_fails rfl rfl (Nat.le_of_ble_eq_true rfl) rfl H0 (iI_k (iI_m0 (fun x16 h H => ?_) (J_X12_fails (d := (d + 2)) H)))
            exact T_ireturn (pc := 80) rfl rfl dX12_put_80 H
        · rw [if_pos hc] at H
          refine T_aload_n (pc := 56) dX12_put_56 rfl rfl ?_
          refine T_iconst (pc := 57) (v := 2) dX12_put_57 (by decide) ?_
          obtain ⟨H0, H⟩ := H
          refine T_iV (pc := 58) (ci := 11) (av := [jI 2]) (rest := []) (o := v0) dX12_put_58 mf_X12_fails c_5_89 c_5_91 pr_X12_fails rfl rfl (Nat.le_of_ble_eq_true rfl) rfl H0 (iI_k (iI_m0 (fun x17 h H => ?_) (J_X12_fails (d := (d + 2)) H)))
          exact T_ireturn (pc := 61) rfl rfl dX12_put_61 H
      · rw [if_pos hc] at H
        refine T_aload_n (pc := 34) dX12_put_34 rfl rfl ?_
        refine T_iconst (pc := 35) (v := 3) dX12_put_35 (by decide) ?_
        obtain ⟨H0, H⟩ := H
        refine T_iV (pc := 36) (ci := 11) (av := [jI 3]) (rest := []) (o := v0) dX12_put_36 mf_X12_fails c_5_89 c_5_91 pr_X12_fails rfl rfl (Nat.le_of_ble_eq_true rfl) rfl H0 (iI_k (iI_m0 (fun x18 h H => ?_) (J_X12_fails (d := (d + 2)) H)))
        exact T_ireturn (pc := 39) rfl rfl dX12_put_39 H
    · rw [if_pos hc] at H
      refine T_bipush (pc := 20) (v := (-2)) dX12_put_20 (by decide) ?_
      exact T_ireturn (pc := 22) rfl rfl dX12_put_22 H
  · rw [if_pos hc] at H
    refine T_iconst (pc := 8) (v := (-1)) dX12_put_8 (by decide) ?_
    exact T_ireturn (pc := 9) rfl rfl dX12_put_9 H
theorem I_X12_put {d : Nat} {v0 : Option Nm} {v1 : Int32} {v2 : Int32} {v3 : Int32} {v4 : Int64} {h : MH} {u : Nat} {K : Int32 → MH → Nat → Prop} (u1 : Nat) (hu : u1 ≤ u) (H : F_X12_put d v0 v1 v2 v3 v4 h u1 (fun x h2 => K x h2 (u - u1))) : iI (d + 3) u_X12_put [jR v0, jI v1, jI v2, jI v3, jL v4] h u K := inv.of u1 hu (Ct.of (by decide +kernel) rfl (Nat.le_of_ble_eq_true rfl) rfl (E_X12_put H))
theorem J_X12_put {d : Nat} {v0 : Option Nm} {v1 : Int32} {v2 : Int32} {v3 : Int32} {v4 : Int64} {h : MH} {u : Nat} {K : Int32 → MH → Prop} (H : F_X12_put d v0 v1 v2 v3 v4 h 0 K) : iI (d + 3) u_X12_put [jR v0, jI v1, jI v2, jI v3, jL v4] h u (fun x h2 u2 => K x h2 ∧ u2 = u) := jiI (by decide +kernel) rfl (Nat.le_of_ble_eq_true rfl) rfl (E_X12_put H)
theorem dX12_record_0 : decode cX12_record 0 = .ok (.iload_n 1, 1) := by decide +kernel
theorem dX12_record_1 : decode cX12_record 1 = .ok (.iconst 0, 1) := by decide +kernel
theorem dX12_record_2 : decode cX12_record 2 = .ok (.iconst 4, 1) := by decide +kernel
theorem dX12_record_3 : decode cX12_record 3 = .ok (.invokestatic 156, 3) := by decide +kernel
theorem dX12_record_6 : decode cX12_record 6 = .ok (.ifCond .eq 12, 3) := by decide +kernel
theorem dX12_record_9 : decode cX12_record 9 = .ok (.aload_n 0, 1) := by decide +kernel
theorem dX12_record_10 : decode cX12_record 10 = .ok (.iconst 0, 1) := by decide +kernel
theorem dX12_record_11 : decode cX12_record 11 = .ok (.iload_n 1, 1) := by decide +kernel
theorem dX12_record_12 : decode cX12_record 12 = .ok (.invokevirtual 202, 3) := by decide +kernel
theorem dX12_record_15 : decode cX12_record 15 = .ok (.goto 5, 3) := by decide +kernel
theorem dX12_record_18 : decode cX12_record 18 = .ok (.bipush (-2), 2) := by decide +kernel
theorem dX12_record_20 : decode cX12_record 20 = .ok (.ireturn, 1) := by decide +kernel
def F_X12_record (d : Nat) (v0 : Option Nm) (v1 : Int32) (h : MH) (u : Nat) (Q : Int32 → MH → Prop) : Prop :=
  F_X12_in d v1 0 4 h 0 fun x1 h =>
  if x1 = 0 then
    Q (-2) h
  else
    rc h v0 11 ∧ F_X12_newKind d v0 0 v1 h 0 fun x2 h =>
    Q x2 h
set_option maxRecDepth 20000 in
theorem E_X12_record {d : Nat} {v0 : Option Nm} {v1 : Int32} {h : MH} {u : Nat} {Q : Int32 → MH → Prop} (H : F_X12_record d v0 v1 h u Q) : T u_X12_record (d + 1) 0 [some (jR v0), some (jI v1)] [] h u (qI Q) := by
  unfold F_X12_record at H
  refine T_iload_n (pc := 0) dX12_record_0 rfl rfl ?_
  refine T_iconst (pc := 1) (v := 0) dX12_record_1 (by decide) ?_
  refine T_iconst (pc := 2) (v := 4) dX12_record_2 (by decide) ?_
  refine T_invS (pc := 3) (av := [jI v1, jI 0, jI 4]) (rest := []) dX12_record_3 mf_X12_in c_5_86 c_5_87 rfl (Nat.le_of_ble_eq_true rfl) rfl (iI_k (iI_m0 (fun x1 h H => ?_) (J_X12_in (d := d) H)))
  refine T_if_eq (pc := 6) (tgt := 18) dX12_record_6 (by decide) (fun hc => ?_) (fun hc => ?_)
  · rw [if_pos hc] at H
    refine T_bipush (pc := 18) (v := (-2)) dX12_record_18 (by decide) ?_
    exact T_ireturn (pc := 20) rfl rfl dX12_record_20 H
  · rw [if_neg hc] at H
    refine T_aload_n (pc := 9) dX12_record_9 rfl rfl ?_
    refine T_iconst (pc := 10) (v := 0) dX12_record_10 (by decide) ?_
    refine T_iload_n (pc := 11) dX12_record_11 rfl rfl ?_
    obtain ⟨H0, H⟩ := H
    refine T_iV (pc := 12) (ci := 11) (av := [jI 0, jI v1]) (rest := []) (o := v0) dX12_record_12 mf_X12_newKind c_5_186 c_5_188 pr_X12_newKind rfl rfl (Nat.le_of_ble_eq_true rfl) rfl H0 (iI_k (iI_m0 (fun x2 h H => ?_) (J_X12_newKind (d := d) H)))
    refine T_goto (pc := 15) (tgt := 20) dX12_record_15 (by decide) ?_
    exact T_ireturn (pc := 20) rfl rfl dX12_record_20 H
theorem I_X12_record {d : Nat} {v0 : Option Nm} {v1 : Int32} {h : MH} {u : Nat} {K : Int32 → MH → Nat → Prop} (u1 : Nat) (hu : u1 ≤ u) (H : F_X12_record d v0 v1 h u1 (fun x h2 => K x h2 (u - u1))) : iI (d + 1) u_X12_record [jR v0, jI v1] h u K := inv.of u1 hu (Ct.of (by decide +kernel) rfl (Nat.le_of_ble_eq_true rfl) rfl (E_X12_record H))
theorem J_X12_record {d : Nat} {v0 : Option Nm} {v1 : Int32} {h : MH} {u : Nat} {K : Int32 → MH → Prop} (H : F_X12_record d v0 v1 h 0 K) : iI (d + 1) u_X12_record [jR v0, jI v1] h u (fun x h2 u2 => K x h2 ∧ u2 = u) := jiI (by decide +kernel) rfl (Nat.le_of_ble_eq_true rfl) rfl (E_X12_record H)
theorem dX12_recordWeight_0 : decode cX12_recordWeight 0 = .ok (.aload_n 0, 1) := by decide +kernel
theorem dX12_recordWeight_1 : decode cX12_recordWeight 1 = .ok (.iconst 1, 1) := by decide +kernel
theorem dX12_recordWeight_2 : decode cX12_recordWeight 2 = .ok (.invokevirtual 218, 3) := by decide +kernel
theorem dX12_recordWeight_5 : decode cX12_recordWeight 5 = .ok (.aload_n 0, 1) := by decide +kernel
theorem dX12_recordWeight_6 : decode cX12_recordWeight 6 = .ok (.iconst 2, 1) := by decide +kernel
theorem dX12_recordWeight_7 : decode cX12_recordWeight 7 = .ok (.invokevirtual 218, 3) := by decide +kernel
theorem dX12_recordWeight_10 : decode cX12_recordWeight 10 = .ok (.aload_n 0, 1) := by decide +kernel
theorem dX12_recordWeight_11 : decode cX12_recordWeight 11 = .ok (.iload_n 1, 1) := by decide +kernel
theorem dX12_recordWeight_12 : decode cX12_recordWeight 12 = .ok (.iload_n 1, 1) := by decide +kernel
theorem dX12_recordWeight_13 : decode cX12_recordWeight 13 = .ok (.invokevirtual 277, 3) := by decide +kernel
theorem dX12_recordWeight_16 : decode cX12_recordWeight 16 = .ok (.bipush 10, 2) := by decide +kernel
theorem dX12_recordWeight_18 : decode cX12_recordWeight 18 = .ok (.ireturn, 1) := by decide +kernel
def F_X12_recordWeight (d : Nat) (v0 : Option Nm) (v1 : Int32) (h : MH) (u : Nat) (Q : Int32 → MH → Prop) : Prop :=
  rc h v0 11 ∧ F_X12_traced d v0 1 h 0 fun h =>
  rc h v0 11 ∧ F_X12_traced d v0 2 h 0 fun h =>
  rc h v0 11 ∧ F_X12_push d v0 v1 v1 h 0 fun h =>
  Q 10 h
set_option maxRecDepth 20000 in
theorem E_X12_recordWeight {d : Nat} {v0 : Option Nm} {v1 : Int32} {h : MH} {u : Nat} {Q : Int32 → MH → Prop} (H : F_X12_recordWeight d v0 v1 h u Q) : T u_X12_recordWeight (d + 1) 0 [some (jR v0), some (jI v1)] [] h u (qI Q) := by
  unfold F_X12_recordWeight at H
  refine T_aload_n (pc := 0) dX12_recordWeight_0 rfl rfl ?_
  refine T_iconst (pc := 1) (v := 1) dX12_recordWeight_1 (by decide) ?_
  obtain ⟨H0, H⟩ := H
  refine T_iV (pc := 2) (ci := 11) (av := [jI 1]) (rest := []) (o := v0) dX12_recordWeight_2 mf_X12_traced c_6_6 c_6_8 pr_X12_traced rfl rfl (Nat.le_of_ble_eq_true rfl) rfl H0 (iV_k (iV_m0 (fun h H => ?_) (J_X12_traced (d := d) H)))
  refine T_aload_n (pc := 5) dX12_recordWeight_5 rfl rfl ?_
  refine T_iconst (pc := 6) (v := 2) dX12_recordWeight_6 (by decide) ?_
  obtain ⟨H0, H⟩ := H
  refine T_iV (pc := 7) (ci := 11) (av := [jI 2]) (rest := []) (o := v0) dX12_recordWeight_7 mf_X12_traced c_6_6 c_6_8 pr_X12_traced rfl rfl (Nat.le_of_ble_eq_true rfl) rfl H0 (iV_k (iV_m0 (fun h H => ?_) (J_X12_traced (d := d) H)))
  refine T_aload_n (pc := 10) dX12_recordWeight_10 rfl rfl ?_
  refine T_iload_n (pc := 11) dX12_recordWeight_11 rfl rfl ?_
  refine T_iload_n (pc := 12) dX12_recordWeight_12 rfl rfl ?_
  obtain ⟨H0, H⟩ := H
  refine T_iV (pc := 13) (ci := 11) (av := [jI v1, jI v1]) (rest := []) (o := v0) dX12_recordWeight_13 mf_X12_push c_6_86 c_6_88 pr_X12_push rfl rfl (Nat.le_of_ble_eq_true rfl) rfl H0 (iV_k (iV_m0 (fun h H => ?_) (J_X12_push (d := d) H)))
  refine T_bipush (pc := 16) (v := 10) dX12_recordWeight_16 (by decide) ?_
  exact T_ireturn (pc := 18) rfl rfl dX12_recordWeight_18 H
theorem I_X12_recordWeight {d : Nat} {v0 : Option Nm} {v1 : Int32} {h : MH} {u : Nat} {K : Int32 → MH → Nat → Prop} (u1 : Nat) (hu : u1 ≤ u) (H : F_X12_recordWeight d v0 v1 h u1 (fun x h2 => K x h2 (u - u1))) : iI (d + 1) u_X12_recordWeight [jR v0, jI v1] h u K := inv.of u1 hu (Ct.of (by decide +kernel) rfl (Nat.le_of_ble_eq_true rfl) rfl (E_X12_recordWeight H))
theorem J_X12_recordWeight {d : Nat} {v0 : Option Nm} {v1 : Int32} {h : MH} {u : Nat} {K : Int32 → MH → Prop} (H : F_X12_recordWeight d v0 v1 h 0 K) : iI (d + 1) u_X12_recordWeight [jR v0, jI v1] h u (fun x h2 u2 => K x h2 ∧ u2 = u) := jiI (by decide +kernel) rfl (Nat.le_of_ble_eq_true rfl) rfl (E_X12_recordWeight H)
theorem dX12_row_0 : decode cX12_row 0 = .ok (.iload_n 1, 1) := by decide +kernel
theorem dX12_row_1 : decode cX12_row 1 = .ok (.iconst 0, 1) := by decide +kernel
theorem dX12_row_2 : decode cX12_row 2 = .ok (.bipush 8, 2) := by decide +kernel
theorem dX12_row_4 : decode cX12_row 4 = .ok (.invokestatic 156, 3) := by decide +kernel
theorem dX12_row_7 : decode cX12_row 7 = .ok (.ifCond .eq 9, 3) := by decide +kernel
theorem dX12_row_10 : decode cX12_row 10 = .ok (.iload_n 2, 1) := by decide +kernel
theorem dX12_row_11 : decode cX12_row 11 = .ok (.bipush 20, 2) := by decide +kernel
theorem dX12_row_13 : decode cX12_row 13 = .ok (.if_icmp .le 6, 3) := by decide +kernel
theorem dX12_row_16 : decode cX12_row 16 = .ok (.bipush (-2), 2) := by decide +kernel
theorem dX12_row_18 : decode cX12_row 18 = .ok (.ireturn, 1) := by decide +kernel
theorem dX12_row_19 : decode cX12_row 19 = .ok (.aload_n 0, 1) := by decide +kernel
theorem dX12_row_20 : decode cX12_row 20 = .ok (.getfield 153, 3) := by decide +kernel
theorem dX12_row_23 : decode cX12_row 23 = .ok (.bipush 60, 2) := by decide +kernel
theorem dX12_row_25 : decode cX12_row 25 = .ok (.if_icmp .ne 6, 3) := by decide +kernel
theorem dX12_row_28 : decode cX12_row 28 = .ok (.bipush (-4), 2) := by decide +kernel
theorem dX12_row_30 : decode cX12_row 30 = .ok (.ireturn, 1) := by decide +kernel
theorem dX12_row_31 : decode cX12_row 31 = .ok (.iload_n 2, 1) := by decide +kernel
theorem dX12_row_32 : decode cX12_row 32 = .ok (.ifCond .ge 11, 3) := by decide +kernel
theorem dX12_row_35 : decode cX12_row 35 = .ok (.aload_n 0, 1) := by decide +kernel
theorem dX12_row_36 : decode cX12_row 36 = .ok (.iconst 4, 1) := by decide +kernel
theorem dX12_row_37 : decode cX12_row 37 = .ok (.invokevirtual 166, 3) := by decide +kernel
theorem dX12_row_40 : decode cX12_row 40 = .ok (.goto 9, 3) := by decide +kernel
theorem dX12_row_43 : decode cX12_row 43 = .ok (.aload_n 0, 1) := by decide +kernel
theorem dX12_row_44 : decode cX12_row 44 = .ok (.iload_n 1, 1) := by decide +kernel
theorem dX12_row_45 : decode cX12_row 45 = .ok (.iload_n 2, 1) := by decide +kernel
theorem dX12_row_46 : decode cX12_row 46 = .ok (.invokevirtual 162, 3) := by decide +kernel
theorem dX12_row_49 : decode cX12_row 49 = .ok (.ireturn, 1) := by decide +kernel
def F_X12_row (d : Nat) (v0 : Option Nm) (v1 : Int32) (v2 : Int32) (h : MH) (u : Nat) (Q : Int32 → MH → Prop) : Prop :=
  F_X12_in d v1 0 8 h 0 fun x1 h =>
  if x1 = 0 then
    Q (-2) h
  else
    if v2 ≤ 20 then
      gI h v0 11 3 fun x2 =>
      if x2 = 60 then
        Q (-4) h
      else
        if 0 ≤ v2 then
          rc h v0 11 ∧ F_X12_newRow d v0 v1 v2 h 0 fun x3 h =>
          Q x3 h
        else
          rc h v0 11 ∧ F_X12_fails d v0 4 h 0 fun x4 h =>
          Q x4 h
    else
      Q (-2) h
set_option maxRecDepth 20000 in
theorem E_X12_row {d : Nat} {v0 : Option Nm} {v1 : Int32} {v2 : Int32} {h : MH} {u : Nat} {Q : Int32 → MH → Prop} (H : F_X12_row d v0 v1 v2 h u Q) : T u_X12_row (d + 1) 0 [some (jR v0), some (jI v1), some (jI v2)] [] h u (qI Q) := by
  unfold F_X12_row at H
  refine T_iload_n (pc := 0) dX12_row_0 rfl rfl ?_
  refine T_iconst (pc := 1) (v := 0) dX12_row_1 (by decide) ?_
  refine T_bipush (pc := 2) (v := 8) dX12_row_2 (by decide) ?_
  refine T_invS (pc := 4) (av := [jI v1, jI 0, jI 8]) (rest := []) dX12_row_4 mf_X12_in c_5_86 c_5_87 rfl (Nat.le_of_ble_eq_true rfl) rfl (iI_k (iI_m0 (fun x1 h H => ?_) (J_X12_in (d := d) H)))
  refine T_if_eq (pc := 7) (tgt := 16) dX12_row_7 (by decide) (fun hc => ?_) (fun hc => ?_)
  · rw [if_pos hc] at H
    refine T_bipush (pc := 16) (v := (-2)) dX12_row_16 (by decide) ?_
    exact T_ireturn (pc := 18) rfl rfl dX12_row_18 H
  · rw [if_neg hc] at H
    refine T_iload_n (pc := 10) dX12_row_10 rfl rfl ?_
    refine T_bipush (pc := 11) (v := 20) dX12_row_11 (by decide) ?_
    refine T_icmp_le (pc := 13) (tgt := 19) dX12_row_13 (by decide) (fun hc => ?_) (fun hc => ?_)
    · rw [if_pos hc] at H
      refine T_aload_n (pc := 19) dX12_row_19 rfl rfl ?_
      refine T_gI (pc := 20) fa_X12_153 dX12_row_20 (gI_mono (fun x2 H => ?_) H)
      refine T_bipush (pc := 23) (v := 60) dX12_row_23 (by decide) ?_
      refine T_icmp_ne (pc := 25) (tgt := 31) dX12_row_25 (by decide) (fun hc => ?_) (fun hc => ?_)
      · rw [if_neg hc] at H
        refine T_iload_n (pc := 31) dX12_row_31 rfl rfl ?_
        refine T_if_ge (pc := 32) (tgt := 43) dX12_row_32 (by decide) (fun hc => ?_) (fun hc => ?_)
        · rw [if_pos hc] at H
          refine T_aload_n (pc := 43) dX12_row_43 rfl rfl ?_
          refine T_iload_n (pc := 44) dX12_row_44 rfl rfl ?_
          refine T_iload_n (pc := 45) dX12_row_45 rfl rfl ?_
          obtain ⟨H0, H⟩ := H
          refine T_iV (pc := 46) (ci := 11) (av := [jI v1, jI v2]) (rest := []) (o := v0) dX12_row_46 mf_X12_newRow c_5_93 c_5_95 pr_X12_newRow rfl rfl (Nat.le_of_ble_eq_true rfl) rfl H0 (iI_k (iI_m0 (fun x3 h H => ?_) (J_X12_newRow (d := d) H)))
          exact T_ireturn (pc := 49) rfl rfl dX12_row_49 H
        · rw [if_neg hc] at H
          refine T_aload_n (pc := 35) dX12_row_35 rfl rfl ?_
          refine T_iconst (pc := 36) (v := 4) dX12_row_36 (by decide) ?_
          obtain ⟨H0, H⟩ := H
          refine T_iV (pc := 37) (ci := 11) (av := [jI 4]) (rest := []) (o := v0) dX12_row_37 mf_X12_fails c_5_89 c_5_91 pr_X12_fails rfl rfl (Nat.le_of_ble_eq_true rfl) rfl H0 (iI_k (iI_m0 (fun x4 h H => ?_) (J_X12_fails (d := d) H)))
          refine T_goto (pc := 40) (tgt := 49) dX12_row_40 (by decide) ?_
          exact T_ireturn (pc := 49) rfl rfl dX12_row_49 H
      · rw [if_pos hc] at H
        refine T_bipush (pc := 28) (v := (-4)) dX12_row_28 (by decide) ?_
        exact T_ireturn (pc := 30) rfl rfl dX12_row_30 H
    · rw [if_neg hc] at H
      refine T_bipush (pc := 16) (v := (-2)) dX12_row_16 (by decide) ?_
      exact T_ireturn (pc := 18) rfl rfl dX12_row_18 H
theorem I_X12_row {d : Nat} {v0 : Option Nm} {v1 : Int32} {v2 : Int32} {h : MH} {u : Nat} {K : Int32 → MH → Nat → Prop} (u1 : Nat) (hu : u1 ≤ u) (H : F_X12_row d v0 v1 v2 h u1 (fun x h2 => K x h2 (u - u1))) : iI (d + 1) u_X12_row [jR v0, jI v1, jI v2] h u K := inv.of u1 hu (Ct.of (by decide +kernel) rfl (Nat.le_of_ble_eq_true rfl) rfl (E_X12_row H))
theorem J_X12_row {d : Nat} {v0 : Option Nm} {v1 : Int32} {v2 : Int32} {h : MH} {u : Nat} {K : Int32 → MH → Prop} (H : F_X12_row d v0 v1 v2 h 0 K) : iI (d + 1) u_X12_row [jR v0, jI v1, jI v2] h u (fun x h2 u2 => K x h2 ∧ u2 = u) := jiI (by decide +kernel) rfl (Nat.le_of_ble_eq_true rfl) rfl (E_X12_row H)
theorem dX12_says_0 : decode cX12_says 0 = .ok (.aload_n 0, 1) := by decide +kernel
theorem dX12_says_1 : decode cX12_says 1 = .ok (.getfield 323, 3) := by decide +kernel
theorem dX12_says_4 : decode cX12_says 4 = .ok (.sipush 4000, 3) := by decide +kernel
theorem dX12_says_7 : decode cX12_says 7 = .ok (.if_icmp .gt 24, 3) := by decide +kernel
theorem dX12_says_10 : decode cX12_says 10 = .ok (.aload_n 0, 1) := by decide +kernel
theorem dX12_says_11 : decode cX12_says 11 = .ok (.getfield 108, 3) := by decide +kernel
theorem dX12_says_14 : decode cX12_says 14 = .ok (.aload_n 0, 1) := by decide +kernel
theorem dX12_says_15 : decode cX12_says 15 = .ok (.getfield 323, 3) := by decide +kernel
theorem dX12_says_18 : decode cX12_says 18 = .ok (.iload_n 1, 1) := by decide +kernel
theorem dX12_says_19 : decode cX12_says 19 = .ok (.i2b, 1) := by decide +kernel
theorem dX12_says_20 : decode cX12_says 20 = .ok (.bastore, 1) := by decide +kernel
theorem dX12_says_21 : decode cX12_says 21 = .ok (.aload_n 0, 1) := by decide +kernel
theorem dX12_says_22 : decode cX12_says 22 = .ok (.dup, 1) := by decide +kernel
theorem dX12_says_23 : decode cX12_says 23 = .ok (.getfield 323, 3) := by decide +kernel
theorem dX12_says_26 : decode cX12_says 26 = .ok (.iconst 1, 1) := by decide +kernel
theorem dX12_says_27 : decode cX12_says 27 = .ok (.iadd, 1) := by decide +kernel
theorem dX12_says_28 : decode cX12_says 28 = .ok (.putfield 323, 3) := by decide +kernel
theorem dX12_says_31 : decode cX12_says 31 = .ok (.return_, 1) := by decide +kernel
def F_X12_says (d : Nat) (v0 : Option Nm) (v1 : Int32) (h : MH) (u : Nat) (Q : MH → Prop) : Prop :=
  gI h v0 11 43 fun x1 =>
  if 4000 < x1 then
    Q h
  else
    gR h v0 11 42 fun x2 =>
    gI h v0 11 43 fun x3 =>
    sV .byte h x2 x3 (jI (v1.toInt8.toInt32).toInt8.toInt32) fun h =>
    gI h v0 11 43 fun x4 =>
    pV h v0 11 43 (jI (x4 + 1)) fun h =>
    Q h
set_option maxRecDepth 20000 in
theorem E_X12_says {d : Nat} {v0 : Option Nm} {v1 : Int32} {h : MH} {u : Nat} {Q : MH → Prop} (H : F_X12_says d v0 v1 h u Q) : T u_X12_says d 0 [some (jR v0), some (jI v1)] [] h u (qV Q) := by
  unfold F_X12_says at H
  refine T_aload_n (pc := 0) dX12_says_0 rfl rfl ?_
  refine T_gI (pc := 1) fa_X12_323 dX12_says_1 (gI_mono (fun x1 H => ?_) H)
  refine T_sipush (pc := 4) (v := 4000) dX12_says_4 (by decide) ?_
  refine T_icmp_gt (pc := 7) (tgt := 31) dX12_says_7 (by decide) (fun hc => ?_) (fun hc => ?_)
  · rw [if_pos hc] at H
    exact T_return (pc := 31) rfl dX12_says_31 H
  · rw [if_neg hc] at H
    refine T_aload_n (pc := 10) dX12_says_10 rfl rfl ?_
    refine T_gR (pc := 11) fa_X12_108 dX12_says_11 (gR_mono (fun x2 H => ?_) H)
    refine T_aload_n (pc := 14) dX12_says_14 rfl rfl ?_
    refine T_gI (pc := 15) fa_X12_323 dX12_says_15 (gI_mono (fun x3 H => ?_) H)
    refine T_iload_n (pc := 18) dX12_says_18 rfl rfl ?_
    refine T_i2b (pc := 19) dX12_says_19 ?_
    refine T_sB (pc := 20) dX12_says_20 (sV_mono (fun h H => ?_) H)
    refine T_aload_n (pc := 21) dX12_says_21 rfl rfl ?_
    refine T_dup (pc := 22) rfl dX12_says_22 ?_
    refine T_gI (pc := 23) fa_X12_323 dX12_says_23 (gI_mono (fun x4 H => ?_) H)
    refine T_iconst (pc := 26) (v := 1) dX12_says_26 (by decide) ?_
    refine T_iadd (pc := 27) dX12_says_27 ?_
    refine T_pV (pc := 28) fa_X12_323 dX12_says_28 trivial (pV_mono (fun h H => ?_) H)
    exact T_return (pc := 31) rfl dX12_says_31 H
theorem I_X12_says {d : Nat} {v0 : Option Nm} {v1 : Int32} {h : MH} {u : Nat} {K : MH → Nat → Prop} (u1 : Nat) (hu : u1 ≤ u) (H : F_X12_says d v0 v1 h u1 (fun h2 => K h2 (u - u1))) : iV d u_X12_says [jR v0, jI v1] h u K := inv.of u1 hu (Ct.of (by decide +kernel) rfl (Nat.le_of_ble_eq_true rfl) rfl (E_X12_says H))
theorem J_X12_says {d : Nat} {v0 : Option Nm} {v1 : Int32} {h : MH} {u : Nat} {K : MH → Prop} (H : F_X12_says d v0 v1 h 0 K) : iV d u_X12_says [jR v0, jI v1] h u (fun h2 u2 => K h2 ∧ u2 = u) := jiV (by decide +kernel) rfl (Nat.le_of_ble_eq_true rfl) rfl (E_X12_says H)
theorem dX12_saysNumber_0 : decode cX12_saysNumber 0 = .ok (.lload_n 1, 1) := by decide +kernel
theorem dX12_saysNumber_1 : decode cX12_saysNumber 1 = .ok (.lconst 0, 1) := by decide +kernel
theorem dX12_saysNumber_2 : decode cX12_saysNumber 2 = .ok (.lcmp, 1) := by decide +kernel
theorem dX12_saysNumber_3 : decode cX12_saysNumber 3 = .ok (.ifCond .ge 7, 3) := by decide +kernel
theorem dX12_saysNumber_6 : decode cX12_saysNumber 6 = .ok (.lload_n 1, 1) := by decide +kernel
theorem dX12_saysNumber_7 : decode cX12_saysNumber 7 = .ok (.goto 5, 3) := by decide +kernel
theorem dX12_saysNumber_10 : decode cX12_saysNumber 10 = .ok (.lload_n 1, 1) := by decide +kernel
theorem dX12_saysNumber_11 : decode cX12_saysNumber 11 = .ok (.lneg, 1) := by decide +kernel
theorem dX12_saysNumber_12 : decode cX12_saysNumber 12 = .ok (.lstore_n 3, 1) := by decide +kernel
theorem dX12_saysNumber_13 : decode cX12_saysNumber 13 = .ok (.lload_n 1, 1) := by decide +kernel
theorem dX12_saysNumber_14 : decode cX12_saysNumber 14 = .ok (.lconst 0, 1) := by decide +kernel
theorem dX12_saysNumber_15 : decode cX12_saysNumber 15 = .ok (.lcmp, 1) := by decide +kernel
theorem dX12_saysNumber_16 : decode cX12_saysNumber 16 = .ok (.ifCond .ge 9, 3) := by decide +kernel
theorem dX12_saysNumber_19 : decode cX12_saysNumber 19 = .ok (.aload_n 0, 1) := by decide +kernel
theorem dX12_saysNumber_20 : decode cX12_saysNumber 20 = .ok (.bipush 45, 2) := by decide +kernel
theorem dX12_saysNumber_22 : decode cX12_saysNumber 22 = .ok (.invokevirtual 326, 3) := by decide +kernel
theorem dX12_saysNumber_25 : decode cX12_saysNumber 25 = .ok (.ldc2_w 160, 3) := by decide +kernel
theorem dX12_saysNumber_28 : decode cX12_saysNumber 28 = .ok (.lstore 5, 2) := by decide +kernel
theorem dX12_saysNumber_30 : decode cX12_saysNumber 30 = .ok (.lload_n 3, 1) := by decide +kernel
theorem dX12_saysNumber_31 : decode cX12_saysNumber 31 = .ok (.ldc2_w 329, 3) := by decide +kernel
theorem dX12_saysNumber_34 : decode cX12_saysNumber 34 = .ok (.ldiv, 1) := by decide +kernel
theorem dX12_saysNumber_35 : decode cX12_saysNumber 35 = .ok (.lload 5, 2) := by decide +kernel
theorem dX12_saysNumber_37 : decode cX12_saysNumber 37 = .ok (.lcmp, 1) := by decide +kernel
theorem dX12_saysNumber_38 : decode cX12_saysNumber 38 = .ok (.ifCond .gt 14, 3) := by decide +kernel
theorem dX12_saysNumber_41 : decode cX12_saysNumber 41 = .ok (.ldc2_w 329, 3) := by decide +kernel
theorem dX12_saysNumber_44 : decode cX12_saysNumber 44 = .ok (.lload 5, 2) := by decide +kernel
theorem dX12_saysNumber_46 : decode cX12_saysNumber 46 = .ok (.lmul, 1) := by decide +kernel
theorem dX12_saysNumber_47 : decode cX12_saysNumber 47 = .ok (.lstore 5, 2) := by decide +kernel
theorem dX12_saysNumber_49 : decode cX12_saysNumber 49 = .ok (.goto (-19), 3) := by decide +kernel
theorem dX12_saysNumber_52 : decode cX12_saysNumber 52 = .ok (.lload 5, 2) := by decide +kernel
theorem dX12_saysNumber_54 : decode cX12_saysNumber 54 = .ok (.lconst 0, 1) := by decide +kernel
theorem dX12_saysNumber_55 : decode cX12_saysNumber 55 = .ok (.lcmp, 1) := by decide +kernel
theorem dX12_saysNumber_56 : decode cX12_saysNumber 56 = .ok (.ifCond .ge 32, 3) := by decide +kernel
theorem dX12_saysNumber_59 : decode cX12_saysNumber 59 = .ok (.aload_n 0, 1) := by decide +kernel
theorem dX12_saysNumber_60 : decode cX12_saysNumber 60 = .ok (.ldc2_w 331, 3) := by decide +kernel
theorem dX12_saysNumber_63 : decode cX12_saysNumber 63 = .ok (.lload_n 3, 1) := by decide +kernel
theorem dX12_saysNumber_64 : decode cX12_saysNumber 64 = .ok (.lload 5, 2) := by decide +kernel
theorem dX12_saysNumber_66 : decode cX12_saysNumber 66 = .ok (.lneg, 1) := by decide +kernel
theorem dX12_saysNumber_67 : decode cX12_saysNumber 67 = .ok (.ldiv, 1) := by decide +kernel
theorem dX12_saysNumber_68 : decode cX12_saysNumber 68 = .ok (.ldc2_w 329, 3) := by decide +kernel
theorem dX12_saysNumber_71 : decode cX12_saysNumber 71 = .ok (.lrem, 1) := by decide +kernel
theorem dX12_saysNumber_72 : decode cX12_saysNumber 72 = .ok (.lsub, 1) := by decide +kernel
theorem dX12_saysNumber_73 : decode cX12_saysNumber 73 = .ok (.l2i, 1) := by decide +kernel
theorem dX12_saysNumber_74 : decode cX12_saysNumber 74 = .ok (.invokevirtual 326, 3) := by decide +kernel
theorem dX12_saysNumber_77 : decode cX12_saysNumber 77 = .ok (.lload 5, 2) := by decide +kernel
theorem dX12_saysNumber_79 : decode cX12_saysNumber 79 = .ok (.ldc2_w 329, 3) := by decide +kernel
theorem dX12_saysNumber_82 : decode cX12_saysNumber 82 = .ok (.ldiv, 1) := by decide +kernel
theorem dX12_saysNumber_83 : decode cX12_saysNumber 83 = .ok (.lstore 5, 2) := by decide +kernel
theorem dX12_saysNumber_85 : decode cX12_saysNumber 85 = .ok (.goto (-33), 3) := by decide +kernel
theorem dX12_saysNumber_88 : decode cX12_saysNumber 88 = .ok (.return_, 1) := by decide +kernel
def L_X12_saysNumber_30 (d : Nat) (v0 : Option Nm) (v3 : Int64) (v5 : Int64) (h : MH) (u : Nat) (Q : MH → Prop) : Prop := T u_X12_saysNumber (d + 1) 30 [some (jR v0), none, none, some (jL v3), none, some (jL v5), none] [] h u (qV Q)
def L_X12_saysNumber_52 (d : Nat) (v0 : Option Nm) (v3 : Int64) (v5 : Int64) (h : MH) (u : Nat) (Q : MH → Prop) : Prop := T u_X12_saysNumber (d + 1) 52 [some (jR v0), none, none, some (jL v3), none, some (jL v5), none] [] h u (qV Q)
def F_X12_saysNumber_12 (d : Nat) (v0 : Option Nm) (v1 : Int64) (s0 : Int64) (h : MH) (u : Nat) (Q : MH → Prop) : Prop :=
  if 0 ≤ (lg_cmp v1 0) then
    L_X12_saysNumber_30 d v0 s0 (-1) h u Q
  else
    rc h v0 11 ∧ F_X12_says d v0 45 h 0 fun h =>
    L_X12_saysNumber_30 d v0 s0 (-1) h u Q
set_option maxRecDepth 20000 in
theorem E_X12_saysNumber_12 {d : Nat} {v0 : Option Nm} {v1 : Int64} {s0 : Int64} {h : MH} {u : Nat} {Q : MH → Prop} (H : F_X12_saysNumber_12 d v0 v1 s0 h u Q) : T u_X12_saysNumber (d + 1) 12 [some (jR v0), some (jL v1), none, none, none, none, none] [jL s0] h u (qV Q) := by
  unfold F_X12_saysNumber_12 at H
  refine T_lstore_n (pc := 12) (ls2 := [some (jR v0), some (jL v1), none, some (jL s0), none, none, none]) dX12_saysNumber_12 rfl (Nat.le_of_ble_eq_true rfl) rfl ?_
  refine T_lload_n (pc := 13) dX12_saysNumber_13 rfl rfl ?_
  refine T_lconst (pc := 14) (v := 0) dX12_saysNumber_14 (by decide) ?_
  refine T_lcmp (pc := 15) dX12_saysNumber_15 ?_
  refine T_if_ge (pc := 16) (tgt := 25) dX12_saysNumber_16 (by decide) (fun hc => ?_) (fun hc => ?_)
  · rw [if_pos hc] at H
    refine T_ldc2 (pc := 25) (v := (-1)) dX12_saysNumber_25 c_5_97 ?_
    refine T_lstore (pc := 28) (ls2 := [some (jR v0), some (jL v1), none, some (jL s0), none, some (jL (-1)), none]) dX12_saysNumber_28 (Nat.le_of_ble_eq_true rfl) rfl ?_
    exact T.forget H ⟨rfl, rfl, rfl, trivial⟩
  · rw [if_neg hc] at H
    refine T_aload_n (pc := 19) dX12_saysNumber_19 rfl rfl ?_
    refine T_bipush (pc := 20) (v := 45) dX12_saysNumber_20 (by decide) ?_
    obtain ⟨H0, H⟩ := H
    refine T_iV (pc := 22) (ci := 11) (av := [jI 45]) (rest := []) (o := v0) dX12_saysNumber_22 mf_X12_says c_6_155 c_6_157 pr_X12_says rfl rfl (Nat.le_of_ble_eq_true rfl) rfl H0 (iV_k (iV_m0 (fun h H => ?_) (J_X12_says (d := d) H)))
    refine T_ldc2 (pc := 25) (v := (-1)) dX12_saysNumber_25 c_5_97 ?_
    refine T_lstore (pc := 28) (ls2 := [some (jR v0), some (jL v1), none, some (jL s0), none, some (jL (-1)), none]) dX12_saysNumber_28 (Nat.le_of_ble_eq_true rfl) rfl ?_
    exact T.forget H ⟨rfl, rfl, rfl, trivial⟩
def F_X12_saysNumber (d : Nat) (v0 : Option Nm) (v1 : Int64) (h : MH) (u : Nat) (Q : MH → Prop) : Prop :=
  if 0 ≤ (lg_cmp v1 0) then
    F_X12_saysNumber_12 d v0 v1 (-v1) h u Q
  else
    F_X12_saysNumber_12 d v0 v1 v1 h u Q
set_option maxRecDepth 20000 in
theorem E_X12_saysNumber {d : Nat} {v0 : Option Nm} {v1 : Int64} {h : MH} {u : Nat} {Q : MH → Prop} (H : F_X12_saysNumber d v0 v1 h u Q) : T u_X12_saysNumber (d + 1) 0 [some (jR v0), some (jL v1), none, none, none, none, none] [] h u (qV Q) := by
  unfold F_X12_saysNumber at H
  refine T_lload_n (pc := 0) dX12_saysNumber_0 rfl rfl ?_
  refine T_lconst (pc := 1) (v := 0) dX12_saysNumber_1 (by decide) ?_
  refine T_lcmp (pc := 2) dX12_saysNumber_2 ?_
  refine T_if_ge (pc := 3) (tgt := 10) dX12_saysNumber_3 (by decide) (fun hc => ?_) (fun hc => ?_)
  · rw [if_pos hc] at H
    refine T_lload_n (pc := 10) dX12_saysNumber_10 rfl rfl ?_
    refine T_lneg (pc := 11) dX12_saysNumber_11 ?_
    exact T.forget (E_X12_saysNumber_12 H) ⟨rfl, rfl, trivial⟩
  · rw [if_neg hc] at H
    refine T_lload_n (pc := 6) dX12_saysNumber_6 rfl rfl ?_
    refine T_goto (pc := 7) (tgt := 12) dX12_saysNumber_7 (by decide) ?_
    exact T.forget (E_X12_saysNumber_12 H) ⟨rfl, rfl, trivial⟩
def F_X12_saysNumber_30 (d : Nat) (v0 : Option Nm) (v3 : Int64) (v5 : Int64) (h : MH) (u : Nat) (Q : MH → Prop) : Prop :=
  if 0 < (lg_cmp (v3 / 10) v5) then
    L_X12_saysNumber_52 d v0 v3 v5 h u Q
  else
    L_X12_saysNumber_30 d v0 v3 (10 * v5) h u Q
set_option maxRecDepth 20000 in
theorem E_X12_saysNumber_30 {d : Nat} {v0 : Option Nm} {v3 : Int64} {v5 : Int64} {h : MH} {u : Nat} {Q : MH → Prop} (H : F_X12_saysNumber_30 d v0 v3 v5 h u Q) : T u_X12_saysNumber (d + 1) 30 [some (jR v0), none, none, some (jL v3), none, some (jL v5), none] [] h u (qV Q) := by
  unfold F_X12_saysNumber_30 at H
  refine T_lload_n (pc := 30) dX12_saysNumber_30 rfl rfl ?_
  refine T_ldc2 (pc := 31) (v := 10) dX12_saysNumber_31 c_6_163 ?_
  refine T_ldiv (pc := 34) dX12_saysNumber_34 (by decide) ?_
  refine T_lload (pc := 35) dX12_saysNumber_35 rfl ?_
  refine T_lcmp (pc := 37) dX12_saysNumber_37 ?_
  refine T_if_gt (pc := 38) (tgt := 52) dX12_saysNumber_38 (by decide) (fun hc => ?_) (fun hc => ?_)
  · rw [if_pos hc] at H
    exact T.forget H ⟨rfl, rfl, rfl, trivial⟩
  · rw [if_neg hc] at H
    refine T_ldc2 (pc := 41) (v := 10) dX12_saysNumber_41 c_6_163 ?_
    refine T_lload (pc := 44) dX12_saysNumber_44 rfl ?_
    refine T_lmul (pc := 46) dX12_saysNumber_46 ?_
    refine T_lstore (pc := 47) (ls2 := [some (jR v0), none, none, some (jL v3), none, some (jL (10 * v5)), none]) dX12_saysNumber_47 (Nat.le_of_ble_eq_true rfl) rfl ?_
    refine T_goto (pc := 49) (tgt := 30) dX12_saysNumber_49 (by decide) ?_
    exact T.forget H ⟨rfl, rfl, rfl, trivial⟩
def F_X12_saysNumber_52 (d : Nat) (v0 : Option Nm) (v3 : Int64) (v5 : Int64) (h : MH) (u : Nat) (Q : MH → Prop) : Prop :=
  if 0 ≤ (lg_cmp v5 0) then
    Q h
  else
    ¬ (-v5) = 0 ∧
    rc h v0 11 ∧ F_X12_says d v0 ((48 - ((v3 / (-v5)) - (v3 / (-v5)) / 10 * 10)).toInt32) h 0 fun h =>
    L_X12_saysNumber_52 d v0 v3 (v5 / 10) h u Q
set_option maxRecDepth 20000 in
theorem E_X12_saysNumber_52 {d : Nat} {v0 : Option Nm} {v3 : Int64} {v5 : Int64} {h : MH} {u : Nat} {Q : MH → Prop} (H : F_X12_saysNumber_52 d v0 v3 v5 h u Q) : T u_X12_saysNumber (d + 1) 52 [some (jR v0), none, none, some (jL v3), none, some (jL v5), none] [] h u (qV Q) := by
  unfold F_X12_saysNumber_52 at H
  refine T_lload (pc := 52) dX12_saysNumber_52 rfl ?_
  refine T_lconst (pc := 54) (v := 0) dX12_saysNumber_54 (by decide) ?_
  refine T_lcmp (pc := 55) dX12_saysNumber_55 ?_
  refine T_if_ge (pc := 56) (tgt := 88) dX12_saysNumber_56 (by decide) (fun hc => ?_) (fun hc => ?_)
  · rw [if_pos hc] at H
    exact T_return (pc := 88) rfl dX12_saysNumber_88 H
  · rw [if_neg hc] at H
    refine T_aload_n (pc := 59) dX12_saysNumber_59 rfl rfl ?_
    refine T_ldc2 (pc := 60) (v := 48) dX12_saysNumber_60 c_6_164 ?_
    refine T_lload_n (pc := 63) dX12_saysNumber_63 rfl rfl ?_
    refine T_lload (pc := 64) dX12_saysNumber_64 rfl ?_
    refine T_lneg (pc := 66) dX12_saysNumber_66 ?_
    obtain ⟨H0, H⟩ := H
    refine T_ldiv (pc := 67) dX12_saysNumber_67 H0 ?_
    refine T_ldc2 (pc := 68) (v := 10) dX12_saysNumber_68 c_6_163 ?_
    refine T_lrem (pc := 71) dX12_saysNumber_71 (by decide) ?_
    refine T_lsub (pc := 72) dX12_saysNumber_72 ?_
    refine T_l2i (pc := 73) dX12_saysNumber_73 ?_
    obtain ⟨H0, H⟩ := H
    refine T_iV (pc := 74) (ci := 11) (av := [jI ((48 - ((v3 / (-v5)) - (v3 / (-v5)) / 10 * 10)).toInt32)]) (rest := []) (o := v0) dX12_saysNumber_74 mf_X12_says c_6_155 c_6_157 pr_X12_says rfl rfl (Nat.le_of_ble_eq_true rfl) rfl H0 (iV_k (iV_m0 (fun h H => ?_) (J_X12_says (d := d) H)))
    refine T_lload (pc := 77) dX12_saysNumber_77 rfl ?_
    refine T_ldc2 (pc := 79) (v := 10) dX12_saysNumber_79 c_6_163 ?_
    refine T_ldiv (pc := 82) dX12_saysNumber_82 (by decide) ?_
    refine T_lstore (pc := 83) (ls2 := [some (jR v0), none, none, some (jL v3), none, some (jL (v5 / 10)), none]) dX12_saysNumber_83 (Nat.le_of_ble_eq_true rfl) rfl ?_
    refine T_goto (pc := 85) (tgt := 52) dX12_saysNumber_85 (by decide) ?_
    exact T.forget H ⟨rfl, rfl, rfl, trivial⟩
theorem I_X12_saysNumber {d : Nat} {v0 : Option Nm} {v1 : Int64} {h : MH} {u : Nat} {K : MH → Nat → Prop} (u1 : Nat) (hu : u1 ≤ u) (H : F_X12_saysNumber d v0 v1 h u1 (fun h2 => K h2 (u - u1))) : iV (d + 1) u_X12_saysNumber [jR v0, jL v1] h u K := inv.of u1 hu (Ct.of (by decide +kernel) rfl (Nat.le_of_ble_eq_true rfl) rfl (E_X12_saysNumber H))
theorem J_X12_saysNumber {d : Nat} {v0 : Option Nm} {v1 : Int64} {h : MH} {u : Nat} {K : MH → Prop} (H : F_X12_saysNumber d v0 v1 h 0 K) : iV (d + 1) u_X12_saysNumber [jR v0, jL v1] h u (fun h2 u2 => K h2 ∧ u2 = u) := jiV (by decide +kernel) rfl (Nat.le_of_ble_eq_true rfl) rfl (E_X12_saysNumber H)
theorem dX12_saysCell_0 : decode cX12_saysCell 0 = .ok (.iload_n 1, 1) := by decide +kernel
theorem dX12_saysCell_1 : decode cX12_saysCell 1 = .ok (.ifCond .ne 23, 3) := by decide +kernel
theorem dX12_saysCell_4 : decode cX12_saysCell 4 = .ok (.aload_n 0, 1) := by decide +kernel
theorem dX12_saysCell_5 : decode cX12_saysCell 5 = .ok (.lload_n 2, 1) := by decide +kernel
theorem dX12_saysCell_6 : decode cX12_saysCell 6 = .ok (.lconst 1, 1) := by decide +kernel
theorem dX12_saysCell_7 : decode cX12_saysCell 7 = .ok (.lcmp, 1) := by decide +kernel
theorem dX12_saysCell_8 : decode cX12_saysCell 8 = .ok (.ifCond .ne 8, 3) := by decide +kernel
theorem dX12_saysCell_11 : decode cX12_saysCell 11 = .ok (.bipush 116, 2) := by decide +kernel
theorem dX12_saysCell_13 : decode cX12_saysCell 13 = .ok (.goto 5, 3) := by decide +kernel
theorem dX12_saysCell_16 : decode cX12_saysCell 16 = .ok (.bipush 102, 2) := by decide +kernel
theorem dX12_saysCell_18 : decode cX12_saysCell 18 = .ok (.invokevirtual 326, 3) := by decide +kernel
theorem dX12_saysCell_21 : decode cX12_saysCell 21 = .ok (.goto 8, 3) := by decide +kernel
theorem dX12_saysCell_24 : decode cX12_saysCell 24 = .ok (.aload_n 0, 1) := by decide +kernel
theorem dX12_saysCell_25 : decode cX12_saysCell 25 = .ok (.lload_n 2, 1) := by decide +kernel
theorem dX12_saysCell_26 : decode cX12_saysCell 26 = .ok (.invokevirtual 333, 3) := by decide +kernel
theorem dX12_saysCell_29 : decode cX12_saysCell 29 = .ok (.return_, 1) := by decide +kernel
def F_X12_saysCell (d : Nat) (v0 : Option Nm) (v1 : Int32) (v2 : Int64) (h : MH) (u : Nat) (Q : MH → Prop) : Prop :=
  if v1 = 0 then
    if (lg_cmp v2 1) = 0 then
      rc h v0 11 ∧ F_X12_says (d + 1) v0 116 h 0 fun h =>
      Q h
    else
      rc h v0 11 ∧ F_X12_says (d + 1) v0 102 h 0 fun h =>
      Q h
  else
    rc h v0 11 ∧ F_X12_saysNumber d v0 v2 h 0 fun h =>
    Q h
set_option maxRecDepth 20000 in
theorem E_X12_saysCell {d : Nat} {v0 : Option Nm} {v1 : Int32} {v2 : Int64} {h : MH} {u : Nat} {Q : MH → Prop} (H : F_X12_saysCell d v0 v1 v2 h u Q) : T u_X12_saysCell (d + 2) 0 [some (jR v0), some (jI v1), some (jL v2), none] [] h u (qV Q) := by
  unfold F_X12_saysCell at H
  refine T_iload_n (pc := 0) dX12_saysCell_0 rfl rfl ?_
  refine T_if_ne (pc := 1) (tgt := 24) dX12_saysCell_1 (by decide) (fun hc => ?_) (fun hc => ?_)
  · rw [if_neg hc] at H
    refine T_aload_n (pc := 24) dX12_saysCell_24 rfl rfl ?_
    refine T_lload_n (pc := 25) dX12_saysCell_25 rfl rfl ?_
    obtain ⟨H0, H⟩ := H
    refine T_iV (pc := 26) (ci := 11) (av := [jL v2]) (rest := []) (o := v0) dX12_saysCell_26 mf_X12_saysNumber c_6_159 c_6_161 pr_X12_saysNumber rfl rfl (Nat.le_of_ble_eq_true rfl) rfl H0 (iV_k (iV_m0 (fun h H => ?_) (J_X12_saysNumber (d := d) H)))
    exact T_return (pc := 29) rfl dX12_saysCell_29 H
  · rw [if_pos hc] at H
    refine T_aload_n (pc := 4) dX12_saysCell_4 rfl rfl ?_
    refine T_lload_n (pc := 5) dX12_saysCell_5 rfl rfl ?_
    refine T_lconst (pc := 6) (v := 1) dX12_saysCell_6 (by decide) ?_
    refine T_lcmp (pc := 7) dX12_saysCell_7 ?_
    refine T_if_ne (pc := 8) (tgt := 16) dX12_saysCell_8 (by decide) (fun hc => ?_) (fun hc => ?_)
    · rw [if_neg hc] at H
      refine T_bipush (pc := 16) (v := 102) dX12_saysCell_16 (by decide) ?_
      obtain ⟨H0, H⟩ := H
      refine T_iV (pc := 18) (ci := 11) (av := [jI 102]) (rest := []) (o := v0) dX12_saysCell_18 mf_X12_says c_6_155 c_6_157 pr_X12_says rfl rfl (Nat.le_of_ble_eq_true rfl) rfl H0 (iV_k (iV_m0 (fun h H => ?_) (J_X12_says (d := (d + 1)) H)))
      refine T_goto (pc := 21) (tgt := 29) dX12_saysCell_21 (by decide) ?_
      exact T_return (pc := 29) rfl dX12_saysCell_29 H
    · rw [if_pos hc] at H
      refine T_bipush (pc := 11) (v := 116) dX12_saysCell_11 (by decide) ?_
      refine T_goto (pc := 13) (tgt := 18) dX12_saysCell_13 (by decide) ?_
      obtain ⟨H0, H⟩ := H
      refine T_iV (pc := 18) (ci := 11) (av := [jI 116]) (rest := []) (o := v0) dX12_saysCell_18 mf_X12_says c_6_155 c_6_157 pr_X12_says rfl rfl (Nat.le_of_ble_eq_true rfl) rfl H0 (iV_k (iV_m0 (fun h H => ?_) (J_X12_says (d := (d + 1)) H)))
      refine T_goto (pc := 21) (tgt := 29) dX12_saysCell_21 (by decide) ?_
      exact T_return (pc := 29) rfl dX12_saysCell_29 H
theorem I_X12_saysCell {d : Nat} {v0 : Option Nm} {v1 : Int32} {v2 : Int64} {h : MH} {u : Nat} {K : MH → Nat → Prop} (u1 : Nat) (hu : u1 ≤ u) (H : F_X12_saysCell d v0 v1 v2 h u1 (fun h2 => K h2 (u - u1))) : iV (d + 2) u_X12_saysCell [jR v0, jI v1, jL v2] h u K := inv.of u1 hu (Ct.of (by decide +kernel) rfl (Nat.le_of_ble_eq_true rfl) rfl (E_X12_saysCell H))
theorem J_X12_saysCell {d : Nat} {v0 : Option Nm} {v1 : Int32} {v2 : Int64} {h : MH} {u : Nat} {K : MH → Prop} (H : F_X12_saysCell d v0 v1 v2 h 0 K) : iV (d + 2) u_X12_saysCell [jR v0, jI v1, jL v2] h u (fun h2 u2 => K h2 ∧ u2 = u) := jiV (by decide +kernel) rfl (Nat.le_of_ble_eq_true rfl) rfl (E_X12_saysCell H)
theorem dX12_saysRow_0 : decode cX12_saysRow 0 = .ok (.aload_n 0, 1) := by decide +kernel
theorem dX12_saysRow_1 : decode cX12_saysRow 1 = .ok (.bipush 91, 2) := by decide +kernel
theorem dX12_saysRow_3 : decode cX12_saysRow 3 = .ok (.invokevirtual 326, 3) := by decide +kernel
theorem dX12_saysRow_6 : decode cX12_saysRow 6 = .ok (.iconst 0, 1) := by decide +kernel
theorem dX12_saysRow_7 : decode cX12_saysRow 7 = .ok (.istore_n 2, 1) := by decide +kernel
theorem dX12_saysRow_8 : decode cX12_saysRow 8 = .ok (.iload_n 2, 1) := by decide +kernel
theorem dX12_saysRow_9 : decode cX12_saysRow 9 = .ok (.aload_n 0, 1) := by decide +kernel
theorem dX12_saysRow_10 : decode cX12_saysRow 10 = .ok (.getfield 13, 3) := by decide +kernel
theorem dX12_saysRow_13 : decode cX12_saysRow 13 = .ok (.iload_n 1, 1) := by decide +kernel
theorem dX12_saysRow_14 : decode cX12_saysRow 14 = .ok (.iaload, 1) := by decide +kernel
theorem dX12_saysRow_15 : decode cX12_saysRow 15 = .ok (.if_icmp .ge 40, 3) := by decide +kernel
theorem dX12_saysRow_18 : decode cX12_saysRow 18 = .ok (.iload_n 2, 1) := by decide +kernel
theorem dX12_saysRow_19 : decode cX12_saysRow 19 = .ok (.ifCond .le 9, 3) := by decide +kernel
theorem dX12_saysRow_22 : decode cX12_saysRow 22 = .ok (.aload_n 0, 1) := by decide +kernel
theorem dX12_saysRow_23 : decode cX12_saysRow 23 = .ok (.bipush 32, 2) := by decide +kernel
theorem dX12_saysRow_25 : decode cX12_saysRow 25 = .ok (.invokevirtual 326, 3) := by decide +kernel
theorem dX12_saysRow_28 : decode cX12_saysRow 28 = .ok (.aload_n 0, 1) := by decide +kernel
theorem dX12_saysRow_29 : decode cX12_saysRow 29 = .ok (.aload_n 0, 1) := by decide +kernel
theorem dX12_saysRow_30 : decode cX12_saysRow 30 = .ok (.getfield 7, 3) := by decide +kernel
theorem dX12_saysRow_33 : decode cX12_saysRow 33 = .ok (.iload_n 1, 1) := by decide +kernel
theorem dX12_saysRow_34 : decode cX12_saysRow 34 = .ok (.iaload, 1) := by decide +kernel
theorem dX12_saysRow_35 : decode cX12_saysRow 35 = .ok (.aload_n 0, 1) := by decide +kernel
theorem dX12_saysRow_36 : decode cX12_saysRow 36 = .ok (.getfield 20, 3) := by decide +kernel
theorem dX12_saysRow_39 : decode cX12_saysRow 39 = .ok (.bipush 20, 2) := by decide +kernel
theorem dX12_saysRow_41 : decode cX12_saysRow 41 = .ok (.iload_n 1, 1) := by decide +kernel
theorem dX12_saysRow_42 : decode cX12_saysRow 42 = .ok (.imul, 1) := by decide +kernel
theorem dX12_saysRow_43 : decode cX12_saysRow 43 = .ok (.iload_n 2, 1) := by decide +kernel
theorem dX12_saysRow_44 : decode cX12_saysRow 44 = .ok (.iadd, 1) := by decide +kernel
theorem dX12_saysRow_45 : decode cX12_saysRow 45 = .ok (.laload, 1) := by decide +kernel
theorem dX12_saysRow_46 : decode cX12_saysRow 46 = .ok (.invokevirtual 336, 3) := by decide +kernel
theorem dX12_saysRow_49 : decode cX12_saysRow 49 = .ok (.iinc 2 1, 3) := by decide +kernel
theorem dX12_saysRow_52 : decode cX12_saysRow 52 = .ok (.goto (-44), 3) := by decide +kernel
theorem dX12_saysRow_55 : decode cX12_saysRow 55 = .ok (.aload_n 0, 1) := by decide +kernel
theorem dX12_saysRow_56 : decode cX12_saysRow 56 = .ok (.bipush 93, 2) := by decide +kernel
theorem dX12_saysRow_58 : decode cX12_saysRow 58 = .ok (.invokevirtual 326, 3) := by decide +kernel
theorem dX12_saysRow_61 : decode cX12_saysRow 61 = .ok (.return_, 1) := by decide +kernel
def L_X12_saysRow_8 (d : Nat) (v0 : Option Nm) (v1 : Int32) (v2 : Int32) (h : MH) (u : Nat) (Q : MH → Prop) : Prop := T u_X12_saysRow (d + 3) 8 [some (jR v0), some (jI v1), some (jI v2)] [] h u (qV Q)
def F_X12_saysRow (d : Nat) (v0 : Option Nm) (v1 : Int32) (h : MH) (u : Nat) (Q : MH → Prop) : Prop :=
  rc h v0 11 ∧ F_X12_says (d + 2) v0 91 h 0 fun h =>
  L_X12_saysRow_8 d v0 v1 0 h u Q
set_option maxRecDepth 20000 in
theorem E_X12_saysRow {d : Nat} {v0 : Option Nm} {v1 : Int32} {h : MH} {u : Nat} {Q : MH → Prop} (H : F_X12_saysRow d v0 v1 h u Q) : T u_X12_saysRow (d + 3) 0 [some (jR v0), some (jI v1), none] [] h u (qV Q) := by
  unfold F_X12_saysRow at H
  refine T_aload_n (pc := 0) dX12_saysRow_0 rfl rfl ?_
  refine T_bipush (pc := 1) (v := 91) dX12_saysRow_1 (by decide) ?_
  obtain ⟨H0, H⟩ := H
  refine T_iV (pc := 3) (ci := 11) (av := [jI 91]) (rest := []) (o := v0) dX12_saysRow_3 mf_X12_says c_6_155 c_6_157 pr_X12_says rfl rfl (Nat.le_of_ble_eq_true rfl) rfl H0 (iV_k (iV_m0 (fun h H => ?_) (J_X12_says (d := (d + 2)) H)))
  refine T_iconst (pc := 6) (v := 0) dX12_saysRow_6 (by decide) ?_
  refine T_istore_n (pc := 7) (ls2 := [some (jR v0), some (jI v1), some (jI 0)]) dX12_saysRow_7 rfl (Nat.le_of_ble_eq_true rfl) rfl ?_
  exact T.forget H ⟨rfl, rfl, rfl, trivial⟩
def F_X12_saysRow_28 (d : Nat) (v0 : Option Nm) (v1 : Int32) (v2 : Int32) (h : MH) (u : Nat) (Q : MH → Prop) : Prop :=
  gR h v0 11 4 fun x1 =>
  aI .int h x1 v1 fun x2 =>
  gR h v0 11 7 fun x3 =>
  aL h x3 ((20 * v1) + v2) fun x4 =>
  rc h v0 11 ∧ F_X12_saysCell d v0 x2 x4 h 0 fun h =>
  L_X12_saysRow_8 d v0 v1 (v2 + 1) h u Q
set_option maxRecDepth 20000 in
theorem E_X12_saysRow_28 {d : Nat} {v0 : Option Nm} {v1 : Int32} {v2 : Int32} {h : MH} {u : Nat} {Q : MH → Prop} (H : F_X12_saysRow_28 d v0 v1 v2 h u Q) : T u_X12_saysRow (d + 3) 28 [some (jR v0), some (jI v1), some (jI v2)] [] h u (qV Q) := by
  unfold F_X12_saysRow_28 at H
  refine T_aload_n (pc := 28) dX12_saysRow_28 rfl rfl ?_
  refine T_aload_n (pc := 29) dX12_saysRow_29 rfl rfl ?_
  refine T_gR (pc := 30) fa_X12_7 dX12_saysRow_30 (gR_mono (fun x1 H => ?_) H)
  refine T_iload_n (pc := 33) dX12_saysRow_33 rfl rfl ?_
  refine T_aI (pc := 34) dX12_saysRow_34 (aI_mono (fun x2 H => ?_) H)
  refine T_aload_n (pc := 35) dX12_saysRow_35 rfl rfl ?_
  refine T_gR (pc := 36) fa_X12_20 dX12_saysRow_36 (gR_mono (fun x3 H => ?_) H)
  refine T_bipush (pc := 39) (v := 20) dX12_saysRow_39 (by decide) ?_
  refine T_iload_n (pc := 41) dX12_saysRow_41 rfl rfl ?_
  refine T_imul (pc := 42) dX12_saysRow_42 ?_
  refine T_iload_n (pc := 43) dX12_saysRow_43 rfl rfl ?_
  refine T_iadd (pc := 44) dX12_saysRow_44 ?_
  refine T_aL (pc := 45) dX12_saysRow_45 (aL_mono (fun x4 H => ?_) H)
  obtain ⟨H0, H⟩ := H
  refine T_iV (pc := 46) (ci := 11) (av := [jI x2, jL x4]) (rest := []) (o := v0) dX12_saysRow_46 mf_X12_saysCell c_6_169 c_6_171 pr_X12_saysCell rfl rfl (Nat.le_of_ble_eq_true rfl) rfl H0 (iV_k (iV_m0 (fun h H => ?_) (J_X12_saysCell (d := d) H)))
  refine T_iinc (pc := 49) (v := v2 + 1) (ls2 := [some (jR v0), some (jI v1), some (jI (v2 + 1))]) dX12_saysRow_49 rfl rfl (Nat.le_of_ble_eq_true rfl) rfl ?_
  refine T_goto (pc := 52) (tgt := 8) dX12_saysRow_52 (by decide) ?_
  exact T.forget H ⟨rfl, rfl, rfl, trivial⟩
def F_X12_saysRow_8 (d : Nat) (v0 : Option Nm) (v1 : Int32) (v2 : Int32) (h : MH) (u : Nat) (Q : MH → Prop) : Prop :=
  gR h v0 11 5 fun x1 =>
  aI .int h x1 v1 fun x2 =>
  if x2 ≤ v2 then
    rc h v0 11 ∧ F_X12_says (d + 2) v0 93 h 0 fun h =>
    Q h
  else
    if v2 ≤ 0 then
      F_X12_saysRow_28 d v0 v1 v2 h u Q
    else
      rc h v0 11 ∧ F_X12_says (d + 2) v0 32 h 0 fun h =>
      F_X12_saysRow_28 d v0 v1 v2 h u Q
set_option maxRecDepth 20000 in
theorem E_X12_saysRow_8 {d : Nat} {v0 : Option Nm} {v1 : Int32} {v2 : Int32} {h : MH} {u : Nat} {Q : MH → Prop} (H : F_X12_saysRow_8 d v0 v1 v2 h u Q) : T u_X12_saysRow (d + 3) 8 [some (jR v0), some (jI v1), some (jI v2)] [] h u (qV Q) := by
  unfold F_X12_saysRow_8 at H
  refine T_iload_n (pc := 8) dX12_saysRow_8 rfl rfl ?_
  refine T_aload_n (pc := 9) dX12_saysRow_9 rfl rfl ?_
  refine T_gR (pc := 10) fa_X12_13 dX12_saysRow_10 (gR_mono (fun x1 H => ?_) H)
  refine T_iload_n (pc := 13) dX12_saysRow_13 rfl rfl ?_
  refine T_aI (pc := 14) dX12_saysRow_14 (aI_mono (fun x2 H => ?_) H)
  refine T_icmp_ge (pc := 15) (tgt := 55) dX12_saysRow_15 (by decide) (fun hc => ?_) (fun hc => ?_)
  · rw [if_pos hc] at H
    refine T_aload_n (pc := 55) dX12_saysRow_55 rfl rfl ?_
    refine T_bipush (pc := 56) (v := 93) dX12_saysRow_56 (by decide) ?_
    obtain ⟨H0, H⟩ := H
    refine T_iV (pc := 58) (ci := 11) (av := [jI 93]) (rest := []) (o := v0) dX12_saysRow_58 mf_X12_says c_6_155 c_6_157 pr_X12_says rfl rfl (Nat.le_of_ble_eq_true rfl) rfl H0 (iV_k (iV_m0 (fun h H => ?_) (J_X12_says (d := (d + 2)) H)))
    exact T_return (pc := 61) rfl dX12_saysRow_61 H
  · rw [if_neg hc] at H
    refine T_iload_n (pc := 18) dX12_saysRow_18 rfl rfl ?_
    refine T_if_le (pc := 19) (tgt := 28) dX12_saysRow_19 (by decide) (fun hc => ?_) (fun hc => ?_)
    · rw [if_pos hc] at H
      exact T.forget (E_X12_saysRow_28 H) ⟨rfl, rfl, rfl, trivial⟩
    · rw [if_neg hc] at H
      refine T_aload_n (pc := 22) dX12_saysRow_22 rfl rfl ?_
      refine T_bipush (pc := 23) (v := 32) dX12_saysRow_23 (by decide) ?_
      obtain ⟨H0, H⟩ := H
      refine T_iV (pc := 25) (ci := 11) (av := [jI 32]) (rest := []) (o := v0) dX12_saysRow_25 mf_X12_says c_6_155 c_6_157 pr_X12_says rfl rfl (Nat.le_of_ble_eq_true rfl) rfl H0 (iV_k (iV_m0 (fun h H => ?_) (J_X12_says (d := (d + 2)) H)))
      exact T.forget (E_X12_saysRow_28 H) ⟨rfl, rfl, rfl, trivial⟩
theorem I_X12_saysRow {d : Nat} {v0 : Option Nm} {v1 : Int32} {h : MH} {u : Nat} {K : MH → Nat → Prop} (u1 : Nat) (hu : u1 ≤ u) (H : F_X12_saysRow d v0 v1 h u1 (fun h2 => K h2 (u - u1))) : iV (d + 3) u_X12_saysRow [jR v0, jI v1] h u K := inv.of u1 hu (Ct.of (by decide +kernel) rfl (Nat.le_of_ble_eq_true rfl) rfl (E_X12_saysRow H))
theorem J_X12_saysRow {d : Nat} {v0 : Option Nm} {v1 : Int32} {h : MH} {u : Nat} {K : MH → Prop} (H : F_X12_saysRow d v0 v1 h 0 K) : iV (d + 3) u_X12_saysRow [jR v0, jI v1] h u (fun h2 u2 => K h2 ∧ u2 = u) := jiV (by decide +kernel) rfl (Nat.le_of_ble_eq_true rfl) rfl (E_X12_saysRow H)
theorem dX12_saysThing_0 : decode cX12_saysThing 0 = .ok (.iload_n 1, 1) := by decide +kernel
theorem dX12_saysThing_1 : decode cX12_saysThing 1 = .ok (.ifCond .ge 12, 3) := by decide +kernel
theorem dX12_saysThing_4 : decode cX12_saysThing 4 = .ok (.aload_n 0, 1) := by decide +kernel
theorem dX12_saysThing_5 : decode cX12_saysThing 5 = .ok (.bipush 33, 2) := by decide +kernel
theorem dX12_saysThing_7 : decode cX12_saysThing 7 = .ok (.invokevirtual 326, 3) := by decide +kernel
theorem dX12_saysThing_10 : decode cX12_saysThing 10 = .ok (.goto 54, 3) := by decide +kernel
theorem dX12_saysThing_13 : decode cX12_saysThing 13 = .ok (.aload_n 0, 1) := by decide +kernel
theorem dX12_saysThing_14 : decode cX12_saysThing 14 = .ok (.iload_n 1, 1) := by decide +kernel
theorem dX12_saysThing_15 : decode cX12_saysThing 15 = .ok (.invokevirtual 261, 3) := by decide +kernel
theorem dX12_saysThing_18 : decode cX12_saysThing 18 = .ok (.ifCond .eq 23, 3) := by decide +kernel
theorem dX12_saysThing_21 : decode cX12_saysThing 21 = .ok (.aload_n 0, 1) := by decide +kernel
theorem dX12_saysThing_22 : decode cX12_saysThing 22 = .ok (.bipush 35, 2) := by decide +kernel
theorem dX12_saysThing_24 : decode cX12_saysThing 24 = .ok (.invokevirtual 326, 3) := by decide +kernel
theorem dX12_saysThing_27 : decode cX12_saysThing 27 = .ok (.aload_n 0, 1) := by decide +kernel
theorem dX12_saysThing_28 : decode cX12_saysThing 28 = .ok (.aload_n 0, 1) := by decide +kernel
theorem dX12_saysThing_29 : decode cX12_saysThing 29 = .ok (.getfield 81, 3) := by decide +kernel
theorem dX12_saysThing_32 : decode cX12_saysThing 32 = .ok (.iload_n 1, 1) := by decide +kernel
theorem dX12_saysThing_33 : decode cX12_saysThing 33 = .ok (.iaload, 1) := by decide +kernel
theorem dX12_saysThing_34 : decode cX12_saysThing 34 = .ok (.i2l, 1) := by decide +kernel
theorem dX12_saysThing_35 : decode cX12_saysThing 35 = .ok (.invokevirtual 333, 3) := by decide +kernel
theorem dX12_saysThing_38 : decode cX12_saysThing 38 = .ok (.goto 26, 3) := by decide +kernel
theorem dX12_saysThing_41 : decode cX12_saysThing 41 = .ok (.aload_n 0, 1) := by decide +kernel
theorem dX12_saysThing_42 : decode cX12_saysThing 42 = .ok (.aload_n 0, 1) := by decide +kernel
theorem dX12_saysThing_43 : decode cX12_saysThing 43 = .ok (.getfield 66, 3) := by decide +kernel
theorem dX12_saysThing_46 : decode cX12_saysThing 46 = .ok (.iload_n 1, 1) := by decide +kernel
theorem dX12_saysThing_47 : decode cX12_saysThing 47 = .ok (.iaload, 1) := by decide +kernel
theorem dX12_saysThing_48 : decode cX12_saysThing 48 = .ok (.i2l, 1) := by decide +kernel
theorem dX12_saysThing_49 : decode cX12_saysThing 49 = .ok (.invokevirtual 333, 3) := by decide +kernel
theorem dX12_saysThing_52 : decode cX12_saysThing 52 = .ok (.aload_n 0, 1) := by decide +kernel
theorem dX12_saysThing_53 : decode cX12_saysThing 53 = .ok (.bipush 40, 2) := by decide +kernel
theorem dX12_saysThing_55 : decode cX12_saysThing 55 = .ok (.invokevirtual 326, 3) := by decide +kernel
theorem dX12_saysThing_58 : decode cX12_saysThing 58 = .ok (.aload_n 0, 1) := by decide +kernel
theorem dX12_saysThing_59 : decode cX12_saysThing 59 = .ok (.iload_n 1, 1) := by decide +kernel
theorem dX12_saysThing_60 : decode cX12_saysThing 60 = .ok (.iload_n 1, 1) := by decide +kernel
theorem dX12_saysThing_61 : decode cX12_saysThing 61 = .ok (.invokevirtual 277, 3) := by decide +kernel
theorem dX12_saysThing_64 : decode cX12_saysThing 64 = .ok (.return_, 1) := by decide +kernel
def F_X12_saysThing (d : Nat) (v0 : Option Nm) (v1 : Int32) (h : MH) (u : Nat) (Q : MH → Prop) : Prop :=
  if 0 ≤ v1 then
    rc h v0 11 ∧ F_X12_isConstant (d + 1) v0 v1 h 0 fun x1 h =>
    if x1 = 0 then
      gR h v0 11 25 fun x2 =>
      aI .int h x2 v1 fun x3 =>
      rc h v0 11 ∧ F_X12_saysNumber d v0 (x3.toInt64) h 0 fun h =>
      rc h v0 11 ∧ F_X12_says (d + 1) v0 40 h 0 fun h =>
      rc h v0 11 ∧ F_X12_push (d + 1) v0 v1 v1 h 0 fun h =>
      Q h
    else
      rc h v0 11 ∧ F_X12_says (d + 1) v0 35 h 0 fun h =>
      gR h v0 11 30 fun x8 =>
      aI .int h x8 v1 fun x9 =>
      rc h v0 11 ∧ F_X12_saysNumber d v0 (x9.toInt64) h 0 fun h =>
      Q h
  else
    rc h v0 11 ∧ F_X12_says (d + 1) v0 33 h 0 fun h =>
    Q h
set_option maxRecDepth 20000 in
theorem E_X12_saysThing {d : Nat} {v0 : Option Nm} {v1 : Int32} {h : MH} {u : Nat} {Q : MH → Prop} (H : F_X12_saysThing d v0 v1 h u Q) : T u_X12_saysThing (d + 2) 0 [some (jR v0), some (jI v1)] [] h u (qV Q) := by
  unfold F_X12_saysThing at H
  refine T_iload_n (pc := 0) dX12_saysThing_0 rfl rfl ?_
  refine T_if_ge (pc := 1) (tgt := 13) dX12_saysThing_1 (by decide) (fun hc => ?_) (fun hc => ?_)
  · rw [if_pos hc] at H
    refine T_aload_n (pc := 13) dX12_saysThing_13 rfl rfl ?_
    refine T_iload_n (pc := 14) dX12_saysThing_14 rfl rfl ?_
    obtain ⟨H0, H⟩ := H
    refine T_iV (pc := 15) (ci := 11) (av := [jI v1]) (rest := []) (o := v0) dX12_saysThing_15 mf_X12_isConstant c_6_34 c_6_36 pr_X12_isConstant rfl rfl (Nat.le_of_ble_eq_true rfl) rfl H0 (iI_k (iI_m0 (fun x1 h H => ?_) (J_X12_isConstant (d := (d + 1)) H)))
    refine T_if_eq (pc := 18) (tgt := 41) dX12_saysThing_18 (by decide) (fun hc => ?_) (fun hc => ?_)
    · rw [if_pos hc] at H
      refine T_aload_n (pc := 41) dX12_saysThing_41 rfl rfl ?_
      refine T_aload_n (pc := 42) dX12_saysThing_42 rfl rfl ?_
      refine T_gR (pc := 43) fa_X12_66 dX12_saysThing_43 (gR_mono (fun x2 H => ?_) H)
      refine T_iload_n (pc := 46) dX12_saysThing_46 rfl rfl ?_
      refine T_aI (pc := 47) dX12_saysThing_47 (aI_mono (fun x3 H => ?_) H)
      refine T_i2l (pc := 48) dX12_saysThing_48 ?_
      obtain ⟨H0, H⟩ := H
      refine T_iV (pc := 49) (ci := 11) (av := [jL (x3.toInt64)]) (rest := []) (o := v0) dX12_saysThing_49 mf_X12_saysNumber c_6_159 c_6_161 pr_X12_saysNumber rfl rfl (Nat.le_of_ble_eq_true rfl) rfl H0 (iV_k (iV_m0 (fun h H => ?_) (J_X12_saysNumber (d := d) H)))
      refine T_aload_n (pc := 52) dX12_saysThing_52 rfl rfl ?_
      refine T_bipush (pc := 53) (v := 40) dX12_saysThing_53 (by decide) ?_
      obtain ⟨H0, H⟩ := H
      refine T_iV (pc := 55) (ci := 11) (av := [jI 40]) (rest := []) (o := v0) dX12_saysThing_55 mf_X12_says c_6_155 c_6_157 pr_X12_says rfl rfl (Nat.le_of_ble_eq_true rfl) rfl H0 (iV_k (iV_m0 (fun h H => ?_) (J_X12_says (d := (d + 1)) H)))
      refine T_aload_n (pc := 58) dX12_saysThing_58 rfl rfl ?_
      refine T_iload_n (pc := 59) dX12_saysThing_59 rfl rfl ?_
      refine T_iload_n (pc := 60) dX12_saysThing_60 rfl rfl ?_
      obtain ⟨H0, H⟩ := H
      refine T_iV (pc := 61) (ci := 11) (av := [jI v1, jI v1]) (rest := []) (o := v0) dX12_saysThing_61 mf_X12_push c_6_86 c_6_88 pr_X12_push rfl rfl (Nat.le_of_ble_eq_true rfl) rfl H0 (iV_k (iV_m0 (fun h H => ?_) (J_X12_push (d := (d + 1)) H)))
      exact T_return (pc := 64) rfl dX12_saysThing_64 H
    · rw [if_neg hc] at H
      refine T_aload_n (pc := 21) dX12_saysThing_21 rfl rfl ?_
      refine T_bipush (pc := 22) (v := 35) dX12_saysThing_22 (by decide) ?_
      obtain ⟨H0, H⟩ := H
      refine T_iV (pc := 24) (ci := 11) (av := [jI 35]) (rest := []) (o := v0) dX12_saysThing_24 mf_X12_says c_6_155 c_6_157 pr_X12_says rfl rfl (Nat.le_of_ble_eq_true rfl) rfl H0 (iV_k (iV_m0 (fun h H => ?_) (J_X12_says (d := (d + 1)) H)))
      refine T_aload_n (pc := 27) dX12_saysThing_27 rfl rfl ?_
      refine T_aload_n (pc := 28) dX12_saysThing_28 rfl rfl ?_
      refine T_gR (pc := 29) fa_X12_81 dX12_saysThing_29 (gR_mono (fun x8 H => ?_) H)
      refine T_iload_n (pc := 32) dX12_saysThing_32 rfl rfl ?_
      refine T_aI (pc := 33) dX12_saysThing_33 (aI_mono (fun x9 H => ?_) H)
      refine T_i2l (pc := 34) dX12_saysThing_34 ?_
      obtain ⟨H0, H⟩ := H
      refine T_iV (pc := 35) (ci := 11) (av := [jL (x9.toInt64)]) (rest := []) (o := v0) dX12_saysThing_35 mf_X12_saysNumber c_6_159 c_6_161 pr_X12_saysNumber rfl rfl (Nat.le_of_ble_eq_true rfl) rfl H0 (iV_k (iV_m0 (fun h H => ?_) (J_X12_saysNumber (d := d) H)))
      refine T_goto (pc := 38) (tgt := 64) dX12_saysThing_38 (by decide) ?_
      exact T_return (pc := 64) rfl dX12_saysThing_64 H
  · rw [if_neg hc] at H
    refine T_aload_n (pc := 4) dX12_saysThing_4 rfl rfl ?_
    refine T_bipush (pc := 5) (v := 33) dX12_saysThing_5 (by decide) ?_
    obtain ⟨H0, H⟩ := H
    refine T_iV (pc := 7) (ci := 11) (av := [jI 33]) (rest := []) (o := v0) dX12_saysThing_7 mf_X12_says c_6_155 c_6_157 pr_X12_says rfl rfl (Nat.le_of_ble_eq_true rfl) rfl H0 (iV_k (iV_m0 (fun h H => ?_) (J_X12_says (d := (d + 1)) H)))
    refine T_goto (pc := 10) (tgt := 64) dX12_saysThing_10 (by decide) ?_
    exact T_return (pc := 64) rfl dX12_saysThing_64 H
theorem I_X12_saysThing {d : Nat} {v0 : Option Nm} {v1 : Int32} {h : MH} {u : Nat} {K : MH → Nat → Prop} (u1 : Nat) (hu : u1 ≤ u) (H : F_X12_saysThing d v0 v1 h u1 (fun h2 => K h2 (u - u1))) : iV (d + 2) u_X12_saysThing [jR v0, jI v1] h u K := inv.of u1 hu (Ct.of (by decide +kernel) rfl (Nat.le_of_ble_eq_true rfl) rfl (E_X12_saysThing H))
theorem J_X12_saysThing {d : Nat} {v0 : Option Nm} {v1 : Int32} {h : MH} {u : Nat} {K : MH → Prop} (H : F_X12_saysThing d v0 v1 h 0 K) : iV (d + 2) u_X12_saysThing [jR v0, jI v1] h u (fun h2 u2 => K h2 ∧ u2 = u) := jiV (by decide +kernel) rfl (Nat.le_of_ble_eq_true rfl) rfl (E_X12_saysThing H)
theorem dX12_saysNext_0 : decode cX12_saysNext 0 = .ok (.aload_n 0, 1) := by decide +kernel
theorem dX12_saysNext_1 : decode cX12_saysNext 1 = .ok (.getfield 96, 3) := by decide +kernel
theorem dX12_saysNext_4 : decode cX12_saysNext 4 = .ok (.iload_n 1, 1) := by decide +kernel
theorem dX12_saysNext_5 : decode cX12_saysNext 5 = .ok (.iaload, 1) := by decide +kernel
theorem dX12_saysNext_6 : decode cX12_saysNext 6 = .ok (.istore_n 2, 1) := by decide +kernel
theorem dX12_saysNext_7 : decode cX12_saysNext 7 = .ok (.aload_n 0, 1) := by decide +kernel
theorem dX12_saysNext_8 : decode cX12_saysNext 8 = .ok (.getfield 90, 3) := by decide +kernel
theorem dX12_saysNext_11 : decode cX12_saysNext 11 = .ok (.iload_n 1, 1) := by decide +kernel
theorem dX12_saysNext_12 : decode cX12_saysNext 12 = .ok (.iaload, 1) := by decide +kernel
theorem dX12_saysNext_13 : decode cX12_saysNext 13 = .ok (.istore_n 3, 1) := by decide +kernel
theorem dX12_saysNext_14 : decode cX12_saysNext 14 = .ok (.aload_n 0, 1) := by decide +kernel
theorem dX12_saysNext_15 : decode cX12_saysNext 15 = .ok (.getfield 99, 3) := by decide +kernel
theorem dX12_saysNext_18 : decode cX12_saysNext 18 = .ok (.iload_n 1, 1) := by decide +kernel
theorem dX12_saysNext_19 : decode cX12_saysNext 19 = .ok (.iaload, 1) := by decide +kernel
theorem dX12_saysNext_20 : decode cX12_saysNext 20 = .ok (.ifCond .lt 101, 3) := by decide +kernel
theorem dX12_saysNext_23 : decode cX12_saysNext 23 = .ok (.aload_n 0, 1) := by decide +kernel
theorem dX12_saysNext_24 : decode cX12_saysNext 24 = .ok (.getfield 84, 3) := by decide +kernel
theorem dX12_saysNext_27 : decode cX12_saysNext 27 = .ok (.bipush 6, 2) := by decide +kernel
theorem dX12_saysNext_29 : decode cX12_saysNext 29 = .ok (.iload_n 3, 1) := by decide +kernel
theorem dX12_saysNext_30 : decode cX12_saysNext 30 = .ok (.imul, 1) := by decide +kernel
theorem dX12_saysNext_31 : decode cX12_saysNext 31 = .ok (.iload_n 2, 1) := by decide +kernel
theorem dX12_saysNext_32 : decode cX12_saysNext 32 = .ok (.iadd, 1) := by decide +kernel
theorem dX12_saysNext_33 : decode cX12_saysNext 33 = .ok (.laload, 1) := by decide +kernel
theorem dX12_saysNext_34 : decode cX12_saysNext 34 = .ok (.l2i, 1) := by decide +kernel
theorem dX12_saysNext_35 : decode cX12_saysNext 35 = .ok (.istore 4, 2) := by decide +kernel
theorem dX12_saysNext_37 : decode cX12_saysNext 37 = .ok (.aload_n 0, 1) := by decide +kernel
theorem dX12_saysNext_38 : decode cX12_saysNext 38 = .ok (.getfield 99, 3) := by decide +kernel
theorem dX12_saysNext_41 : decode cX12_saysNext 41 = .ok (.iload_n 1, 1) := by decide +kernel
theorem dX12_saysNext_42 : decode cX12_saysNext 42 = .ok (.iaload, 1) := by decide +kernel
theorem dX12_saysNext_43 : decode cX12_saysNext 43 = .ok (.istore 5, 2) := by decide +kernel
theorem dX12_saysNext_45 : decode cX12_saysNext 45 = .ok (.iload 5, 2) := by decide +kernel
theorem dX12_saysNext_47 : decode cX12_saysNext 47 = .ok (.aload_n 0, 1) := by decide +kernel
theorem dX12_saysNext_48 : decode cX12_saysNext 48 = .ok (.getfield 13, 3) := by decide +kernel
theorem dX12_saysNext_51 : decode cX12_saysNext 51 = .ok (.iload 4, 2) := by decide +kernel
theorem dX12_saysNext_53 : decode cX12_saysNext 53 = .ok (.iaload, 1) := by decide +kernel
theorem dX12_saysNext_54 : decode cX12_saysNext 54 = .ok (.if_icmp .ne 27, 3) := by decide +kernel
theorem dX12_saysNext_57 : decode cX12_saysNext 57 = .ok (.aload_n 0, 1) := by decide +kernel
theorem dX12_saysNext_58 : decode cX12_saysNext 58 = .ok (.bipush 93, 2) := by decide +kernel
theorem dX12_saysNext_60 : decode cX12_saysNext 60 = .ok (.invokevirtual 326, 3) := by decide +kernel
theorem dX12_saysNext_63 : decode cX12_saysNext 63 = .ok (.aload_n 0, 1) := by decide +kernel
theorem dX12_saysNext_64 : decode cX12_saysNext 64 = .ok (.getfield 99, 3) := by decide +kernel
theorem dX12_saysNext_67 : decode cX12_saysNext 67 = .ok (.iload_n 1, 1) := by decide +kernel
theorem dX12_saysNext_68 : decode cX12_saysNext 68 = .ok (.iconst (-1), 1) := by decide +kernel
theorem dX12_saysNext_69 : decode cX12_saysNext 69 = .ok (.iastore, 1) := by decide +kernel
theorem dX12_saysNext_70 : decode cX12_saysNext 70 = .ok (.aload_n 0, 1) := by decide +kernel
theorem dX12_saysNext_71 : decode cX12_saysNext 71 = .ok (.getfield 96, 3) := by decide +kernel
theorem dX12_saysNext_74 : decode cX12_saysNext 74 = .ok (.iload_n 1, 1) := by decide +kernel
theorem dX12_saysNext_75 : decode cX12_saysNext 75 = .ok (.dup2, 1) := by decide +kernel
theorem dX12_saysNext_76 : decode cX12_saysNext 76 = .ok (.iaload, 1) := by decide +kernel
theorem dX12_saysNext_77 : decode cX12_saysNext 77 = .ok (.iconst 1, 1) := by decide +kernel
theorem dX12_saysNext_78 : decode cX12_saysNext 78 = .ok (.iadd, 1) := by decide +kernel
theorem dX12_saysNext_79 : decode cX12_saysNext 79 = .ok (.iastore, 1) := by decide +kernel
theorem dX12_saysNext_80 : decode cX12_saysNext 80 = .ok (.return_, 1) := by decide +kernel
theorem dX12_saysNext_81 : decode cX12_saysNext 81 = .ok (.iload 5, 2) := by decide +kernel
theorem dX12_saysNext_83 : decode cX12_saysNext 83 = .ok (.ifCond .le 9, 3) := by decide +kernel
theorem dX12_saysNext_86 : decode cX12_saysNext 86 = .ok (.aload_n 0, 1) := by decide +kernel
theorem dX12_saysNext_87 : decode cX12_saysNext 87 = .ok (.bipush 32, 2) := by decide +kernel
theorem dX12_saysNext_89 : decode cX12_saysNext 89 = .ok (.invokevirtual 326, 3) := by decide +kernel
theorem dX12_saysNext_92 : decode cX12_saysNext 92 = .ok (.aload_n 0, 1) := by decide +kernel
theorem dX12_saysNext_93 : decode cX12_saysNext 93 = .ok (.getfield 99, 3) := by decide +kernel
theorem dX12_saysNext_96 : decode cX12_saysNext 96 = .ok (.iload_n 1, 1) := by decide +kernel
theorem dX12_saysNext_97 : decode cX12_saysNext 97 = .ok (.dup2, 1) := by decide +kernel
theorem dX12_saysNext_98 : decode cX12_saysNext 98 = .ok (.iaload, 1) := by decide +kernel
theorem dX12_saysNext_99 : decode cX12_saysNext 99 = .ok (.iconst 1, 1) := by decide +kernel
theorem dX12_saysNext_100 : decode cX12_saysNext 100 = .ok (.iadd, 1) := by decide +kernel
theorem dX12_saysNext_101 : decode cX12_saysNext 101 = .ok (.iastore, 1) := by decide +kernel
theorem dX12_saysNext_102 : decode cX12_saysNext 102 = .ok (.aload_n 0, 1) := by decide +kernel
theorem dX12_saysNext_103 : decode cX12_saysNext 103 = .ok (.aload_n 0, 1) := by decide +kernel
theorem dX12_saysNext_104 : decode cX12_saysNext 104 = .ok (.getfield 20, 3) := by decide +kernel
theorem dX12_saysNext_107 : decode cX12_saysNext 107 = .ok (.bipush 20, 2) := by decide +kernel
theorem dX12_saysNext_109 : decode cX12_saysNext 109 = .ok (.iload 4, 2) := by decide +kernel
theorem dX12_saysNext_111 : decode cX12_saysNext 111 = .ok (.imul, 1) := by decide +kernel
theorem dX12_saysNext_112 : decode cX12_saysNext 112 = .ok (.iload 5, 2) := by decide +kernel
theorem dX12_saysNext_114 : decode cX12_saysNext 114 = .ok (.iadd, 1) := by decide +kernel
theorem dX12_saysNext_115 : decode cX12_saysNext 115 = .ok (.laload, 1) := by decide +kernel
theorem dX12_saysNext_116 : decode cX12_saysNext 116 = .ok (.l2i, 1) := by decide +kernel
theorem dX12_saysNext_117 : decode cX12_saysNext 117 = .ok (.invokevirtual 340, 3) := by decide +kernel
theorem dX12_saysNext_120 : decode cX12_saysNext 120 = .ok (.return_, 1) := by decide +kernel
theorem dX12_saysNext_121 : decode cX12_saysNext 121 = .ok (.iload_n 2, 1) := by decide +kernel
theorem dX12_saysNext_122 : decode cX12_saysNext 122 = .ok (.aload_n 0, 1) := by decide +kernel
theorem dX12_saysNext_123 : decode cX12_saysNext 123 = .ok (.iload_n 3, 1) := by decide +kernel
theorem dX12_saysNext_124 : decode cX12_saysNext 124 = .ok (.invokevirtual 264, 3) := by decide +kernel
theorem dX12_saysNext_127 : decode cX12_saysNext 127 = .ok (.if_icmp .ne 20, 3) := by decide +kernel
theorem dX12_saysNext_130 : decode cX12_saysNext 130 = .ok (.aload_n 0, 1) := by decide +kernel
theorem dX12_saysNext_131 : decode cX12_saysNext 131 = .ok (.bipush 41, 2) := by decide +kernel
theorem dX12_saysNext_133 : decode cX12_saysNext 133 = .ok (.invokevirtual 326, 3) := by decide +kernel
theorem dX12_saysNext_136 : decode cX12_saysNext 136 = .ok (.aload_n 0, 1) := by decide +kernel
theorem dX12_saysNext_137 : decode cX12_saysNext 137 = .ok (.dup, 1) := by decide +kernel
theorem dX12_saysNext_138 : decode cX12_saysNext 138 = .ok (.getfield 271, 3) := by decide +kernel
theorem dX12_saysNext_141 : decode cX12_saysNext 141 = .ok (.iconst 1, 1) := by decide +kernel
theorem dX12_saysNext_142 : decode cX12_saysNext 142 = .ok (.isub, 1) := by decide +kernel
theorem dX12_saysNext_143 : decode cX12_saysNext 143 = .ok (.putfield 271, 3) := by decide +kernel
theorem dX12_saysNext_146 : decode cX12_saysNext 146 = .ok (.return_, 1) := by decide +kernel
theorem dX12_saysNext_147 : decode cX12_saysNext 147 = .ok (.iload_n 2, 1) := by decide +kernel
theorem dX12_saysNext_148 : decode cX12_saysNext 148 = .ok (.ifCond .le 9, 3) := by decide +kernel
theorem dX12_saysNext_151 : decode cX12_saysNext 151 = .ok (.aload_n 0, 1) := by decide +kernel
theorem dX12_saysNext_152 : decode cX12_saysNext 152 = .ok (.bipush 44, 2) := by decide +kernel
theorem dX12_saysNext_154 : decode cX12_saysNext 154 = .ok (.invokevirtual 326, 3) := by decide +kernel
theorem dX12_saysNext_157 : decode cX12_saysNext 157 = .ok (.aload_n 0, 1) := by decide +kernel
theorem dX12_saysNext_158 : decode cX12_saysNext 158 = .ok (.aload_n 0, 1) := by decide +kernel
theorem dX12_saysNext_159 : decode cX12_saysNext 159 = .ok (.getfield 45, 3) := by decide +kernel
theorem dX12_saysNext_162 : decode cX12_saysNext 162 = .ok (.bipush 8, 2) := by decide +kernel
theorem dX12_saysNext_164 : decode cX12_saysNext 164 = .ok (.aload_n 0, 1) := by decide +kernel
theorem dX12_saysNext_165 : decode cX12_saysNext 165 = .ok (.iload_n 3, 1) := by decide +kernel
theorem dX12_saysNext_166 : decode cX12_saysNext 166 = .ok (.invokevirtual 231, 3) := by decide +kernel
theorem dX12_saysNext_169 : decode cX12_saysNext 169 = .ok (.imul, 1) := by decide +kernel
theorem dX12_saysNext_170 : decode cX12_saysNext 170 = .ok (.iload_n 2, 1) := by decide +kernel
theorem dX12_saysNext_171 : decode cX12_saysNext 171 = .ok (.iadd, 1) := by decide +kernel
theorem dX12_saysNext_172 : decode cX12_saysNext 172 = .ok (.iaload, 1) := by decide +kernel
theorem dX12_saysNext_173 : decode cX12_saysNext 173 = .ok (.i2l, 1) := by decide +kernel
theorem dX12_saysNext_174 : decode cX12_saysNext 174 = .ok (.invokevirtual 333, 3) := by decide +kernel
theorem dX12_saysNext_177 : decode cX12_saysNext 177 = .ok (.aload_n 0, 1) := by decide +kernel
theorem dX12_saysNext_178 : decode cX12_saysNext 178 = .ok (.bipush 61, 2) := by decide +kernel
theorem dX12_saysNext_180 : decode cX12_saysNext 180 = .ok (.invokevirtual 326, 3) := by decide +kernel
theorem dX12_saysNext_183 : decode cX12_saysNext 183 = .ok (.aload_n 0, 1) := by decide +kernel
theorem dX12_saysNext_184 : decode cX12_saysNext 184 = .ok (.getfield 84, 3) := by decide +kernel
theorem dX12_saysNext_187 : decode cX12_saysNext 187 = .ok (.bipush 6, 2) := by decide +kernel
theorem dX12_saysNext_189 : decode cX12_saysNext 189 = .ok (.iload_n 3, 1) := by decide +kernel
theorem dX12_saysNext_190 : decode cX12_saysNext 190 = .ok (.imul, 1) := by decide +kernel
theorem dX12_saysNext_191 : decode cX12_saysNext 191 = .ok (.iload_n 2, 1) := by decide +kernel
theorem dX12_saysNext_192 : decode cX12_saysNext 192 = .ok (.iadd, 1) := by decide +kernel
theorem dX12_saysNext_193 : decode cX12_saysNext 193 = .ok (.laload, 1) := by decide +kernel
theorem dX12_saysNext_194 : decode cX12_saysNext 194 = .ok (.lstore 4, 2) := by decide +kernel
theorem dX12_saysNext_196 : decode cX12_saysNext 196 = .ok (.aload_n 0, 1) := by decide +kernel
theorem dX12_saysNext_197 : decode cX12_saysNext 197 = .ok (.iload_n 3, 1) := by decide +kernel
theorem dX12_saysNext_198 : decode cX12_saysNext 198 = .ok (.iload_n 2, 1) := by decide +kernel
theorem dX12_saysNext_199 : decode cX12_saysNext 199 = .ok (.invokevirtual 256, 3) := by decide +kernel
theorem dX12_saysNext_202 : decode cX12_saysNext 202 = .ok (.istore 6, 2) := by decide +kernel
theorem dX12_saysNext_204 : decode cX12_saysNext 204 = .ok (.iload 6, 2) := by decide +kernel
theorem dX12_saysNext_206 : decode cX12_saysNext 206 = .ok (.bipush 9, 2) := by decide +kernel
theorem dX12_saysNext_208 : decode cX12_saysNext 208 = .ok (.if_icmp .ne 37, 3) := by decide +kernel
theorem dX12_saysNext_211 : decode cX12_saysNext 211 = .ok (.lload 4, 2) := by decide +kernel
theorem dX12_saysNext_213 : decode cX12_saysNext 213 = .ok (.lconst 0, 1) := by decide +kernel
theorem dX12_saysNext_214 : decode cX12_saysNext 214 = .ok (.lcmp, 1) := by decide +kernel
theorem dX12_saysNext_215 : decode cX12_saysNext 215 = .ok (.ifCond .lt 30, 3) := by decide +kernel
theorem dX12_saysNext_218 : decode cX12_saysNext 218 = .ok (.aload_n 0, 1) := by decide +kernel
theorem dX12_saysNext_219 : decode cX12_saysNext 219 = .ok (.getfield 7, 3) := by decide +kernel
theorem dX12_saysNext_222 : decode cX12_saysNext 222 = .ok (.lload 4, 2) := by decide +kernel
theorem dX12_saysNext_224 : decode cX12_saysNext 224 = .ok (.l2i, 1) := by decide +kernel
theorem dX12_saysNext_225 : decode cX12_saysNext 225 = .ok (.iaload, 1) := by decide +kernel
theorem dX12_saysNext_226 : decode cX12_saysNext 226 = .ok (.bipush 8, 2) := by decide +kernel
theorem dX12_saysNext_228 : decode cX12_saysNext 228 = .ok (.if_icmp .ne 17, 3) := by decide +kernel
theorem dX12_saysNext_231 : decode cX12_saysNext 231 = .ok (.aload_n 0, 1) := by decide +kernel
theorem dX12_saysNext_232 : decode cX12_saysNext 232 = .ok (.bipush 91, 2) := by decide +kernel
theorem dX12_saysNext_234 : decode cX12_saysNext 234 = .ok (.invokevirtual 326, 3) := by decide +kernel
theorem dX12_saysNext_237 : decode cX12_saysNext 237 = .ok (.aload_n 0, 1) := by decide +kernel
theorem dX12_saysNext_238 : decode cX12_saysNext 238 = .ok (.getfield 99, 3) := by decide +kernel
theorem dX12_saysNext_241 : decode cX12_saysNext 241 = .ok (.iload_n 1, 1) := by decide +kernel
theorem dX12_saysNext_242 : decode cX12_saysNext 242 = .ok (.iconst 0, 1) := by decide +kernel
theorem dX12_saysNext_243 : decode cX12_saysNext 243 = .ok (.iastore, 1) := by decide +kernel
theorem dX12_saysNext_244 : decode cX12_saysNext 244 = .ok (.return_, 1) := by decide +kernel
theorem dX12_saysNext_245 : decode cX12_saysNext 245 = .ok (.aload_n 0, 1) := by decide +kernel
theorem dX12_saysNext_246 : decode cX12_saysNext 246 = .ok (.getfield 96, 3) := by decide +kernel
theorem dX12_saysNext_249 : decode cX12_saysNext 249 = .ok (.iload_n 1, 1) := by decide +kernel
theorem dX12_saysNext_250 : decode cX12_saysNext 250 = .ok (.dup2, 1) := by decide +kernel
theorem dX12_saysNext_251 : decode cX12_saysNext 251 = .ok (.iaload, 1) := by decide +kernel
theorem dX12_saysNext_252 : decode cX12_saysNext 252 = .ok (.iconst 1, 1) := by decide +kernel
theorem dX12_saysNext_253 : decode cX12_saysNext 253 = .ok (.iadd, 1) := by decide +kernel
theorem dX12_saysNext_254 : decode cX12_saysNext 254 = .ok (.iastore, 1) := by decide +kernel
theorem dX12_saysNext_255 : decode cX12_saysNext 255 = .ok (.iload 6, 2) := by decide +kernel
theorem dX12_saysNext_257 : decode cX12_saysNext 257 = .ok (.bipush 8, 2) := by decide +kernel
theorem dX12_saysNext_259 : decode cX12_saysNext 259 = .ok (.if_icmp .ge 14, 3) := by decide +kernel
theorem dX12_saysNext_262 : decode cX12_saysNext 262 = .ok (.aload_n 0, 1) := by decide +kernel
theorem dX12_saysNext_263 : decode cX12_saysNext 263 = .ok (.iload 6, 2) := by decide +kernel
theorem dX12_saysNext_265 : decode cX12_saysNext 265 = .ok (.lload 4, 2) := by decide +kernel
theorem dX12_saysNext_267 : decode cX12_saysNext 267 = .ok (.invokevirtual 336, 3) := by decide +kernel
theorem dX12_saysNext_270 : decode cX12_saysNext 270 = .ok (.goto 43, 3) := by decide +kernel
theorem dX12_saysNext_273 : decode cX12_saysNext 273 = .ok (.iload 6, 2) := by decide +kernel
theorem dX12_saysNext_275 : decode cX12_saysNext 275 = .ok (.bipush 8, 2) := by decide +kernel
theorem dX12_saysNext_277 : decode cX12_saysNext 277 = .ok (.if_icmp .ne 13, 3) := by decide +kernel
theorem dX12_saysNext_280 : decode cX12_saysNext 280 = .ok (.aload_n 0, 1) := by decide +kernel
theorem dX12_saysNext_281 : decode cX12_saysNext 281 = .ok (.lload 4, 2) := by decide +kernel
theorem dX12_saysNext_283 : decode cX12_saysNext 283 = .ok (.l2i, 1) := by decide +kernel
theorem dX12_saysNext_284 : decode cX12_saysNext 284 = .ok (.invokevirtual 340, 3) := by decide +kernel
theorem dX12_saysNext_287 : decode cX12_saysNext 287 = .ok (.goto 26, 3) := by decide +kernel
theorem dX12_saysNext_290 : decode cX12_saysNext 290 = .ok (.lload 4, 2) := by decide +kernel
theorem dX12_saysNext_292 : decode cX12_saysNext 292 = .ok (.lconst 0, 1) := by decide +kernel
theorem dX12_saysNext_293 : decode cX12_saysNext 293 = .ok (.lcmp, 1) := by decide +kernel
theorem dX12_saysNext_294 : decode cX12_saysNext 294 = .ok (.ifCond .ge 12, 3) := by decide +kernel
theorem dX12_saysNext_297 : decode cX12_saysNext 297 = .ok (.aload_n 0, 1) := by decide +kernel
theorem dX12_saysNext_298 : decode cX12_saysNext 298 = .ok (.bipush 33, 2) := by decide +kernel
theorem dX12_saysNext_300 : decode cX12_saysNext 300 = .ok (.invokevirtual 326, 3) := by decide +kernel
theorem dX12_saysNext_303 : decode cX12_saysNext 303 = .ok (.goto 10, 3) := by decide +kernel
theorem dX12_saysNext_306 : decode cX12_saysNext 306 = .ok (.aload_n 0, 1) := by decide +kernel
theorem dX12_saysNext_307 : decode cX12_saysNext 307 = .ok (.lload 4, 2) := by decide +kernel
theorem dX12_saysNext_309 : decode cX12_saysNext 309 = .ok (.l2i, 1) := by decide +kernel
theorem dX12_saysNext_310 : decode cX12_saysNext 310 = .ok (.invokevirtual 343, 3) := by decide +kernel
theorem dX12_saysNext_313 : decode cX12_saysNext 313 = .ok (.return_, 1) := by decide +kernel
def F_X12_saysNext_92 (d : Nat) (v0 : Option Nm) (v1 : Int32) (v4 : Int32) (v5 : Int32) (h : MH) (u : Nat) (Q : MH → Prop) : Prop :=
  gR h v0 11 39 fun x1 =>
  aI .int h x1 v1 fun x2 =>
  sV .int h x1 v1 (jI (x2 + 1)) fun h =>
  gR h v0 11 7 fun x3 =>
  aL h x3 ((20 * v4) + v5) fun x4 =>
  rc h v0 11 ∧ F_X12_saysThing (d + 1) v0 (x4.toInt32) h 0 fun h =>
  Q h
set_option maxRecDepth 20000 in
theorem E_X12_saysNext_92 {d : Nat} {v0 : Option Nm} {v1 : Int32} {v4 : Int32} {v5 : Int32} {h : MH} {u : Nat} {Q : MH → Prop} (H : F_X12_saysNext_92 d v0 v1 v4 v5 h u Q) : T u_X12_saysNext (d + 4) 92 [some (jR v0), some (jI v1), none, none, some (jI v4), some (jI v5), none] [] h u (qV Q) := by
  unfold F_X12_saysNext_92 at H
  refine T_aload_n (pc := 92) dX12_saysNext_92 rfl rfl ?_
  refine T_gR (pc := 93) fa_X12_99 dX12_saysNext_93 (gR_mono (fun x1 H => ?_) H)
  refine T_iload_n (pc := 96) dX12_saysNext_96 rfl rfl ?_
  refine T_dup2 (pc := 97) rfl rfl dX12_saysNext_97 ?_
  refine T_aI (pc := 98) dX12_saysNext_98 (aI_mono (fun x2 H => ?_) H)
  refine T_iconst (pc := 99) (v := 1) dX12_saysNext_99 (by decide) ?_
  refine T_iadd (pc := 100) dX12_saysNext_100 ?_
  refine T_sI (pc := 101) dX12_saysNext_101 (sV_mono (fun h H => ?_) H)
  refine T_aload_n (pc := 102) dX12_saysNext_102 rfl rfl ?_
  refine T_aload_n (pc := 103) dX12_saysNext_103 rfl rfl ?_
  refine T_gR (pc := 104) fa_X12_20 dX12_saysNext_104 (gR_mono (fun x3 H => ?_) H)
  refine T_bipush (pc := 107) (v := 20) dX12_saysNext_107 (by decide) ?_
  refine T_iload (pc := 109) dX12_saysNext_109 rfl ?_
  refine T_imul (pc := 111) dX12_saysNext_111 ?_
  refine T_iload (pc := 112) dX12_saysNext_112 rfl ?_
  refine T_iadd (pc := 114) dX12_saysNext_114 ?_
  refine T_aL (pc := 115) dX12_saysNext_115 (aL_mono (fun x4 H => ?_) H)
  refine T_l2i (pc := 116) dX12_saysNext_116 ?_
  obtain ⟨H0, H⟩ := H
  refine T_iV (pc := 117) (ci := 11) (av := [jI (x4.toInt32)]) (rest := []) (o := v0) dX12_saysNext_117 mf_X12_saysThing c_6_151 c_6_153 pr_X12_saysThing rfl rfl (Nat.le_of_ble_eq_true rfl) rfl H0 (iV_k (iV_m0 (fun h H => ?_) (J_X12_saysThing (d := (d + 1)) H)))
  exact T_return (pc := 120) rfl dX12_saysNext_120 H
def F_X12_saysNext_245 (d : Nat) (v0 : Option Nm) (v1 : Int32) (v4 : Int64) (v6 : Int32) (h : MH) (u : Nat) (Q : MH → Prop) : Prop :=
  gR h v0 11 38 fun x1 =>
  aI .int h x1 v1 fun x2 =>
  sV .int h x1 v1 (jI (x2 + 1)) fun h =>
  if 8 ≤ v6 then
    if v6 = 8 then
      rc h v0 11 ∧ F_X12_saysThing (d + 1) v0 (v4.toInt32) h 0 fun h =>
      Q h
    else
      if 0 ≤ (lg_cmp v4 0) then
        rc h v0 11 ∧ F_X12_saysRow d v0 (v4.toInt32) h 0 fun h =>
        Q h
      else
        rc h v0 11 ∧ F_X12_says (d + 3) v0 33 h 0 fun h =>
        Q h
  else
    rc h v0 11 ∧ F_X12_saysCell (d + 1) v0 v6 v4 h 0 fun h =>
    Q h
set_option maxRecDepth 20000 in
theorem E_X12_saysNext_245 {d : Nat} {v0 : Option Nm} {v1 : Int32} {v4 : Int64} {v6 : Int32} {h : MH} {u : Nat} {Q : MH → Prop} (H : F_X12_saysNext_245 d v0 v1 v4 v6 h u Q) : T u_X12_saysNext (d + 4) 245 [some (jR v0), some (jI v1), none, none, some (jL v4), none, some (jI v6)] [] h u (qV Q) := by
  unfold F_X12_saysNext_245 at H
  refine T_aload_n (pc := 245) dX12_saysNext_245 rfl rfl ?_
  refine T_gR (pc := 246) fa_X12_96 dX12_saysNext_246 (gR_mono (fun x1 H => ?_) H)
  refine T_iload_n (pc := 249) dX12_saysNext_249 rfl rfl ?_
  refine T_dup2 (pc := 250) rfl rfl dX12_saysNext_250 ?_
  refine T_aI (pc := 251) dX12_saysNext_251 (aI_mono (fun x2 H => ?_) H)
  refine T_iconst (pc := 252) (v := 1) dX12_saysNext_252 (by decide) ?_
  refine T_iadd (pc := 253) dX12_saysNext_253 ?_
  refine T_sI (pc := 254) dX12_saysNext_254 (sV_mono (fun h H => ?_) H)
  refine T_iload (pc := 255) dX12_saysNext_255 rfl ?_
  refine T_bipush (pc := 257) (v := 8) dX12_saysNext_257 (by decide) ?_
  refine T_icmp_ge (pc := 259) (tgt := 273) dX12_saysNext_259 (by decide) (fun hc => ?_) (fun hc => ?_)
  · rw [if_pos hc] at H
    refine T_iload (pc := 273) dX12_saysNext_273 rfl ?_
    refine T_bipush (pc := 275) (v := 8) dX12_saysNext_275 (by decide) ?_
    refine T_icmp_ne (pc := 277) (tgt := 290) dX12_saysNext_277 (by decide) (fun hc => ?_) (fun hc => ?_)
    · rw [if_neg hc] at H
      refine T_lload (pc := 290) dX12_saysNext_290 rfl ?_
      refine T_lconst (pc := 292) (v := 0) dX12_saysNext_292 (by decide) ?_
      refine T_lcmp (pc := 293) dX12_saysNext_293 ?_
      refine T_if_ge (pc := 294) (tgt := 306) dX12_saysNext_294 (by decide) (fun hc => ?_) (fun hc => ?_)
      · rw [if_pos hc] at H
        refine T_aload_n (pc := 306) dX12_saysNext_306 rfl rfl ?_
        refine T_lload (pc := 307) dX12_saysNext_307 rfl ?_
        refine T_l2i (pc := 309) dX12_saysNext_309 ?_
        obtain ⟨H0, H⟩ := H
        refine T_iV (pc := 310) (ci := 11) (av := [jI (v4.toInt32)]) (rest := []) (o := v0) dX12_saysNext_310 mf_X12_saysRow c_6_173 c_6_175 pr_X12_saysRow rfl rfl (Nat.le_of_ble_eq_true rfl) rfl H0 (iV_k (iV_m0 (fun h H => ?_) (J_X12_saysRow (d := d) H)))
        exact T_return (pc := 313) rfl dX12_saysNext_313 H
      · rw [if_neg hc] at H
        refine T_aload_n (pc := 297) dX12_saysNext_297 rfl rfl ?_
        refine T_bipush (pc := 298) (v := 33) dX12_saysNext_298 (by decide) ?_
        obtain ⟨H0, H⟩ := H
        refine T_iV (pc := 300) (ci := 11) (av := [jI 33]) (rest := []) (o := v0) dX12_saysNext_300 mf_X12_says c_6_155 c_6_157 pr_X12_says rfl rfl (Nat.le_of_ble_eq_true rfl) rfl H0 (iV_k (iV_m0 (fun h H => ?_) (J_X12_says (d := (d + 3)) H)))
        refine T_goto (pc := 303) (tgt := 313) dX12_saysNext_303 (by decide) ?_
        exact T_return (pc := 313) rfl dX12_saysNext_313 H
    · rw [if_pos hc] at H
      refine T_aload_n (pc := 280) dX12_saysNext_280 rfl rfl ?_
      refine T_lload (pc := 281) dX12_saysNext_281 rfl ?_
      refine T_l2i (pc := 283) dX12_saysNext_283 ?_
      obtain ⟨H0, H⟩ := H
      refine T_iV (pc := 284) (ci := 11) (av := [jI (v4.toInt32)]) (rest := []) (o := v0) dX12_saysNext_284 mf_X12_saysThing c_6_151 c_6_153 pr_X12_saysThing rfl rfl (Nat.le_of_ble_eq_true rfl) rfl H0 (iV_k (iV_m0 (fun h H => ?_) (J_X12_saysThing (d := (d + 1)) H)))
      refine T_goto (pc := 287) (tgt := 313) dX12_saysNext_287 (by decide) ?_
      exact T_return (pc := 313) rfl dX12_saysNext_313 H
  · rw [if_neg hc] at H
    refine T_aload_n (pc := 262) dX12_saysNext_262 rfl rfl ?_
    refine T_iload (pc := 263) dX12_saysNext_263 rfl ?_
    refine T_lload (pc := 265) dX12_saysNext_265 rfl ?_
    obtain ⟨H0, H⟩ := H
    refine T_iV (pc := 267) (ci := 11) (av := [jI v6, jL v4]) (rest := []) (o := v0) dX12_saysNext_267 mf_X12_saysCell c_6_169 c_6_171 pr_X12_saysCell rfl rfl (Nat.le_of_ble_eq_true rfl) rfl H0 (iV_k (iV_m0 (fun h H => ?_) (J_X12_saysCell (d := (d + 1)) H)))
    refine T_goto (pc := 270) (tgt := 313) dX12_saysNext_270 (by decide) ?_
    exact T_return (pc := 313) rfl dX12_saysNext_313 H
def F_X12_saysNext_157 (d : Nat) (v0 : Option Nm) (v1 : Int32) (v2 : Int32) (v3 : Int32) (h : MH) (u : Nat) (Q : MH → Prop) : Prop :=
  gR h v0 11 16 fun x1 =>
  rc h v0 11 ∧ F_X12_editionOf (d + 3) v0 v3 h 0 fun x2 h =>
  aI .int h x1 ((8 * x2) + v2) fun x3 =>
  rc h v0 11 ∧ F_X12_saysNumber (d + 2) v0 (x3.toInt64) h 0 fun h =>
  rc h v0 11 ∧ F_X12_says (d + 3) v0 61 h 0 fun h =>
  gR h v0 11 31 fun x6 =>
  aL h x6 ((6 * v3) + v2) fun x7 =>
  rc h v0 11 ∧ F_X12_laneOf (d + 2) v0 v3 v2 h 0 fun x8 h =>
  if x8 = 9 then
    if (lg_cmp x7 0) < 0 then
      F_X12_saysNext_245 d v0 v1 x7 x8 h u Q
    else
      gR h v0 11 4 fun x9 =>
      aI .int h x9 (x7.toInt32) fun x10 =>
      if x10 = 8 then
        rc h v0 11 ∧ F_X12_says (d + 3) v0 91 h 0 fun h =>
        gR h v0 11 39 fun x12 =>
        sV .int h x12 v1 (jI 0) fun h =>
        Q h
      else
        F_X12_saysNext_245 d v0 v1 x7 x8 h u Q
  else
    F_X12_saysNext_245 d v0 v1 x7 x8 h u Q
set_option maxRecDepth 20000 in
theorem E_X12_saysNext_157 {d : Nat} {v0 : Option Nm} {v1 : Int32} {v2 : Int32} {v3 : Int32} {h : MH} {u : Nat} {Q : MH → Prop} (H : F_X12_saysNext_157 d v0 v1 v2 v3 h u Q) : T u_X12_saysNext (d + 4) 157 [some (jR v0), some (jI v1), some (jI v2), some (jI v3), none, none, none] [] h u (qV Q) := by
  unfold F_X12_saysNext_157 at H
  refine T_aload_n (pc := 157) dX12_saysNext_157 rfl rfl ?_
  refine T_aload_n (pc := 158) dX12_saysNext_158 rfl rfl ?_
  refine T_gR (pc := 159) fa_X12_45 dX12_saysNext_159 (gR_mono (fun x1 H => ?_) H)
  refine T_bipush (pc := 162) (v := 8) dX12_saysNext_162 (by decide) ?_
  refine T_aload_n (pc := 164) dX12_saysNext_164 rfl rfl ?_
  refine T_iload_n (pc := 165) dX12_saysNext_165 rfl rfl ?_
  obtain ⟨H0, H⟩ := H
  refine T_iV (pc := 166) (ci := 11) (av := [jI v3]) (rest := [jI 8, jR x1, jR v0]) (o := v0) dX12_saysNext_166 mf_X12_editionOf c_6_42 c_6_44 pr_X12_editionOf rfl rfl (Nat.le_of_ble_eq_true rfl) rfl H0 (iI_k (iI_m0 (fun x2 h H => ?_) (J_X12_editionOf (d := (d + 3)) H)))
  refine T_imul (pc := 169) dX12_saysNext_169 ?_
  refine T_iload_n (pc := 170) dX12_saysNext_170 rfl rfl ?_
  refine T_iadd (pc := 171) dX12_saysNext_171 ?_
  refine T_aI (pc := 172) dX12_saysNext_172 (aI_mono (fun x3 H => ?_) H)
  refine T_i2l (pc := 173) dX12_saysNext_173 ?_
  obtain ⟨H0, H⟩ := H
  refine T_iV (pc := 174) (ci := 11) (av := [jL (x3.toInt64)]) (rest := []) (o := v0) dX12_saysNext_174 mf_X12_saysNumber c_6_159 c_6_161 pr_X12_saysNumber rfl rfl (Nat.le_of_ble_eq_true rfl) rfl H0 (iV_k (iV_m0 (fun h H => ?_) (J_X12_saysNumber (d := (d + 2)) H)))
  refine T_aload_n (pc := 177) dX12_saysNext_177 rfl rfl ?_
  refine T_bipush (pc := 178) (v := 61) dX12_saysNext_178 (by decide) ?_
  obtain ⟨H0, H⟩ := H
  refine T_iV (pc := 180) (ci := 11) (av := [jI 61]) (rest := []) (o := v0) dX12_saysNext_180 mf_X12_says c_6_155 c_6_157 pr_X12_says rfl rfl (Nat.le_of_ble_eq_true rfl) rfl H0 (iV_k (iV_m0 (fun h H => ?_) (J_X12_says (d := (d + 3)) H)))
  refine T_aload_n (pc := 183) dX12_saysNext_183 rfl rfl ?_
  refine T_gR (pc := 184) fa_X12_84 dX12_saysNext_184 (gR_mono (fun x6 H => ?_) H)
  refine T_bipush (pc := 187) (v := 6) dX12_saysNext_187 (by decide) ?_
  refine T_iload_n (pc := 189) dX12_saysNext_189 rfl rfl ?_
  refine T_imul (pc := 190) dX12_saysNext_190 ?_
  refine T_iload_n (pc := 191) dX12_saysNext_191 rfl rfl ?_
  refine T_iadd (pc := 192) dX12_saysNext_192 ?_
  refine T_aL (pc := 193) dX12_saysNext_193 (aL_mono (fun x7 H => ?_) H)
  refine T_lstore (pc := 194) (ls2 := [some (jR v0), some (jI v1), some (jI v2), some (jI v3), some (jL x7), none, none]) dX12_saysNext_194 (Nat.le_of_ble_eq_true rfl) rfl ?_
  refine T_aload_n (pc := 196) dX12_saysNext_196 rfl rfl ?_
  refine T_iload_n (pc := 197) dX12_saysNext_197 rfl rfl ?_
  refine T_iload_n (pc := 198) dX12_saysNext_198 rfl rfl ?_
  obtain ⟨H0, H⟩ := H
  refine T_iV (pc := 199) (ci := 11) (av := [jI v3, jI v2]) (rest := []) (o := v0) dX12_saysNext_199 mf_X12_laneOf c_6_50 c_6_52 pr_X12_laneOf rfl rfl (Nat.le_of_ble_eq_true rfl) rfl H0 (iI_k (iI_m0 (fun x8 h H => ?_) (J_X12_laneOf (d := (d + 2)) H)))
  refine T_istore (pc := 202) (ls2 := [some (jR v0), some (jI v1), some (jI v2), some (jI v3), some (jL x7), none, some (jI x8)]) dX12_saysNext_202 (Nat.le_of_ble_eq_true rfl) rfl ?_
  refine T_iload (pc := 204) dX12_saysNext_204 rfl ?_
  refine T_bipush (pc := 206) (v := 9) dX12_saysNext_206 (by decide) ?_
  refine T_icmp_ne (pc := 208) (tgt := 245) dX12_saysNext_208 (by decide) (fun hc => ?_) (fun hc => ?_)
  · rw [if_neg hc] at H
    exact T.forget (E_X12_saysNext_245 H) ⟨rfl, rfl, rfl, rfl, trivial⟩
  · rw [if_pos hc] at H
    refine T_lload (pc := 211) dX12_saysNext_211 rfl ?_
    refine T_lconst (pc := 213) (v := 0) dX12_saysNext_213 (by decide) ?_
    refine T_lcmp (pc := 214) dX12_saysNext_214 ?_
    refine T_if_lt (pc := 215) (tgt := 245) dX12_saysNext_215 (by decide) (fun hc => ?_) (fun hc => ?_)
    · rw [if_pos hc] at H
      exact T.forget (E_X12_saysNext_245 H) ⟨rfl, rfl, rfl, rfl, trivial⟩
    · rw [if_neg hc] at H
      refine T_aload_n (pc := 218) dX12_saysNext_218 rfl rfl ?_
      refine T_gR (pc := 219) fa_X12_7 dX12_saysNext_219 (gR_mono (fun x9 H => ?_) H)
      refine T_lload (pc := 222) dX12_saysNext_222 rfl ?_
      refine T_l2i (pc := 224) dX12_saysNext_224 ?_
      refine T_aI (pc := 225) dX12_saysNext_225 (aI_mono (fun x10 H => ?_) H)
      refine T_bipush (pc := 226) (v := 8) dX12_saysNext_226 (by decide) ?_
      refine T_icmp_ne (pc := 228) (tgt := 245) dX12_saysNext_228 (by decide) (fun hc => ?_) (fun hc => ?_)
      · rw [if_neg hc] at H
        exact T.forget (E_X12_saysNext_245 H) ⟨rfl, rfl, rfl, rfl, trivial⟩
      · rw [if_pos hc] at H
        refine T_aload_n (pc := 231) dX12_saysNext_231 rfl rfl ?_
        refine T_bipush (pc := 232) (v := 91) dX12_saysNext_232 (by decide) ?_
        obtain ⟨H0, H⟩ := H
        refine T_iV (pc := 234) (ci := 11) (av := [jI 91]) (rest := []) (o := v0) dX12_saysNext_234 mf_X12_says c_6_155 c_6_157 pr_X12_says rfl rfl (Nat.le_of_ble_eq_true rfl) rfl H0 (iV_k (iV_m0 (fun h H => ?_) (J_X12_says (d := (d + 3)) H)))
        refine T_aload_n (pc := 237) dX12_saysNext_237 rfl rfl ?_
        refine T_gR (pc := 238) fa_X12_99 dX12_saysNext_238 (gR_mono (fun x12 H => ?_) H)
        refine T_iload_n (pc := 241) dX12_saysNext_241 rfl rfl ?_
        refine T_iconst (pc := 242) (v := 0) dX12_saysNext_242 (by decide) ?_
        refine T_sI (pc := 243) dX12_saysNext_243 (sV_mono (fun h H => ?_) H)
        exact T_return (pc := 244) rfl dX12_saysNext_244 H
def F_X12_saysNext (d : Nat) (v0 : Option Nm) (v1 : Int32) (h : MH) (u : Nat) (Q : MH → Prop) : Prop :=
  gR h v0 11 38 fun x1 =>
  aI .int h x1 v1 fun x2 =>
  gR h v0 11 36 fun x3 =>
  aI .int h x3 v1 fun x4 =>
  gR h v0 11 39 fun x5 =>
  aI .int h x5 v1 fun x6 =>
  if x6 < 0 then
    rc h v0 11 ∧ F_X12_partsOf (d + 2) v0 x4 h 0 fun x7 h =>
    if x2 = x7 then
      rc h v0 11 ∧ F_X12_says (d + 3) v0 41 h 0 fun h =>
      gI h v0 11 35 fun x10 =>
      pV h v0 11 35 (jI (x10 - 1)) fun h =>
      Q h
    else
      if x2 ≤ 0 then
        F_X12_saysNext_157 d v0 v1 x2 x4 h u Q
      else
        rc h v0 11 ∧ F_X12_says (d + 3) v0 44 h 0 fun h =>
        F_X12_saysNext_157 d v0 v1 x2 x4 h u Q
  else
    gR h v0 11 31 fun x11 =>
    aL h x11 ((6 * x4) + x2) fun x12 =>
    gR h v0 11 39 fun x13 =>
    aI .int h x13 v1 fun x14 =>
    gR h v0 11 5 fun x15 =>
    aI .int h x15 (x12.toInt32) fun x16 =>
    if x14 = x16 then
      rc h v0 11 ∧ F_X12_says (d + 3) v0 93 h 0 fun h =>
      gR h v0 11 39 fun x19 =>
      sV .int h x19 v1 (jI (-1)) fun h =>
      gR h v0 11 38 fun x20 =>
      aI .int h x20 v1 fun x21 =>
      sV .int h x20 v1 (jI (x21 + 1)) fun h =>
      Q h
    else
      if x14 ≤ 0 then
        F_X12_saysNext_92 d v0 v1 (x12.toInt32) x14 h u Q
      else
        rc h v0 11 ∧ F_X12_says (d + 3) v0 32 h 0 fun h =>
        F_X12_saysNext_92 d v0 v1 (x12.toInt32) x14 h u Q
set_option maxRecDepth 20000 in
theorem E_X12_saysNext {d : Nat} {v0 : Option Nm} {v1 : Int32} {h : MH} {u : Nat} {Q : MH → Prop} (H : F_X12_saysNext d v0 v1 h u Q) : T u_X12_saysNext (d + 4) 0 [some (jR v0), some (jI v1), none, none, none, none, none] [] h u (qV Q) := by
  unfold F_X12_saysNext at H
  refine T_aload_n (pc := 0) dX12_saysNext_0 rfl rfl ?_
  refine T_gR (pc := 1) fa_X12_96 dX12_saysNext_1 (gR_mono (fun x1 H => ?_) H)
  refine T_iload_n (pc := 4) dX12_saysNext_4 rfl rfl ?_
  refine T_aI (pc := 5) dX12_saysNext_5 (aI_mono (fun x2 H => ?_) H)
  refine T_istore_n (pc := 6) (ls2 := [some (jR v0), some (jI v1), some (jI x2), none, none, none, none]) dX12_saysNext_6 rfl (Nat.le_of_ble_eq_true rfl) rfl ?_
  refine T_aload_n (pc := 7) dX12_saysNext_7 rfl rfl ?_
  refine T_gR (pc := 8) fa_X12_90 dX12_saysNext_8 (gR_mono (fun x3 H => ?_) H)
  refine T_iload_n (pc := 11) dX12_saysNext_11 rfl rfl ?_
  refine T_aI (pc := 12) dX12_saysNext_12 (aI_mono (fun x4 H => ?_) H)
  refine T_istore_n (pc := 13) (ls2 := [some (jR v0), some (jI v1), some (jI x2), some (jI x4), none, none, none]) dX12_saysNext_13 rfl (Nat.le_of_ble_eq_true rfl) rfl ?_
  refine T_aload_n (pc := 14) dX12_saysNext_14 rfl rfl ?_
  refine T_gR (pc := 15) fa_X12_99 dX12_saysNext_15 (gR_mono (fun x5 H => ?_) H)
  refine T_iload_n (pc := 18) dX12_saysNext_18 rfl rfl ?_
  refine T_aI (pc := 19) dX12_saysNext_19 (aI_mono (fun x6 H => ?_) H)
  refine T_if_lt (pc := 20) (tgt := 121) dX12_saysNext_20 (by decide) (fun hc => ?_) (fun hc => ?_)
  · rw [if_pos hc] at H
    refine T_iload_n (pc := 121) dX12_saysNext_121 rfl rfl ?_
    refine T_aload_n (pc := 122) dX12_saysNext_122 rfl rfl ?_
    refine T_iload_n (pc := 123) dX12_saysNext_123 rfl rfl ?_
    obtain ⟨H0, H⟩ := H
    refine T_iV (pc := 124) (ci := 11) (av := [jI x4]) (rest := [jI x2]) (o := v0) dX12_saysNext_124 mf_X12_partsOf c_6_38 c_6_40 pr_X12_partsOf rfl rfl (Nat.le_of_ble_eq_true rfl) rfl H0 (iI_k (iI_m0 (fun x7 h H => ?_) (J_X12_partsOf (d := (d + 2)) H)))
    refine T_icmp_ne (pc := 127) (tgt := 147) dX12_saysNext_127 (by decide) (fun hc => ?_) (fun hc => ?_)
    · rw [if_neg hc] at H
      refine T_iload_n (pc := 147) dX12_saysNext_147 rfl rfl ?_
      refine T_if_le (pc := 148) (tgt := 157) dX12_saysNext_148 (by decide) (fun hc => ?_) (fun hc => ?_)
      · rw [if_pos hc] at H
        exact T.forget (E_X12_saysNext_157 H) ⟨rfl, rfl, rfl, rfl, trivial⟩
      · rw [if_neg hc] at H
        refine T_aload_n (pc := 151) dX12_saysNext_151 rfl rfl ?_
        refine T_bipush (pc := 152) (v := 44) dX12_saysNext_152 (by decide) ?_
        obtain ⟨H0, H⟩ := H
        refine T_iV (pc := 154) (ci := 11) (av := [jI 44]) (rest := []) (o := v0) dX12_saysNext_154 mf_X12_says c_6_155 c_6_157 pr_X12_says rfl rfl (Nat.le_of_ble_eq_true rfl) rfl H0 (iV_k (iV_m0 (fun h H => ?_) (J_X12_says (d := (d + 3)) H)))
        exact T.forget (E_X12_saysNext_157 H) ⟨rfl, rfl, rfl, rfl, trivial⟩
    · rw [if_pos hc] at H
      refine T_aload_n (pc := 130) dX12_saysNext_130 rfl rfl ?_
      refine T_bipush (pc := 131) (v := 41) dX12_saysNext_131 (by decide) ?_
      obtain ⟨H0, H⟩ := H
      refine T_iV (pc := 133) (ci := 11) (av := [jI 41]) (rest := []) (o := v0) dX12_saysNext_133 mf_X12_says c_6_155 c_6_157 pr_X12_says rfl rfl (Nat.le_of_ble_eq_true rfl) rfl H0 (iV_k (iV_m0 (fun h H => ?_) (J_X12_says (d := (d + 3)) H)))
      refine T_aload_n (pc := 136) dX12_saysNext_136 rfl rfl ?_
      refine T_dup (pc := 137) rfl dX12_saysNext_137 ?_
      refine T_gI (pc := 138) fa_X12_271 dX12_saysNext_138 (gI_mono (fun x10 H => ?_) H)
      refine T_iconst (pc := 141) (v := 1) dX12_saysNext_141 (by decide) ?_
      refine T_isub (pc := 142) dX12_saysNext_142 ?_
      refine T_pV (pc := 143) fa_X12_271 dX12_saysNext_143 trivial (pV_mono (fun h H => ?_) H)
      exact T_return (pc := 146) rfl dX12_saysNext_146 H
  · rw [if_neg hc] at H
    refine T_aload_n (pc := 23) dX12_saysNext_23 rfl rfl ?_
    refine T_gR (pc := 24) fa_X12_84 dX12_saysNext_24 (gR_mono (fun x11 H => ?_) H)
    refine T_bipush (pc := 27) (v := 6) dX12_saysNext_27 (by decide) ?_
    refine T_iload_n (pc := 29) dX12_saysNext_29 rfl rfl ?_
    refine T_imul (pc := 30) dX12_saysNext_30 ?_
    refine T_iload_n (pc := 31) dX12_saysNext_31 rfl rfl ?_
    refine T_iadd (pc := 32) dX12_saysNext_32 ?_
    refine T_aL (pc := 33) dX12_saysNext_33 (aL_mono (fun x12 H => ?_) H)
    refine T_l2i (pc := 34) dX12_saysNext_34 ?_
    refine T_istore (pc := 35) (ls2 := [some (jR v0), some (jI v1), some (jI x2), some (jI x4), some (jI (x12.toInt32)), none, none]) dX12_saysNext_35 (Nat.le_of_ble_eq_true rfl) rfl ?_
    refine T_aload_n (pc := 37) dX12_saysNext_37 rfl rfl ?_
    refine T_gR (pc := 38) fa_X12_99 dX12_saysNext_38 (gR_mono (fun x13 H => ?_) H)
    refine T_iload_n (pc := 41) dX12_saysNext_41 rfl rfl ?_
    refine T_aI (pc := 42) dX12_saysNext_42 (aI_mono (fun x14 H => ?_) H)
    refine T_istore (pc := 43) (ls2 := [some (jR v0), some (jI v1), some (jI x2), some (jI x4), some (jI (x12.toInt32)), some (jI x14), none]) dX12_saysNext_43 (Nat.le_of_ble_eq_true rfl) rfl ?_
    refine T_iload (pc := 45) dX12_saysNext_45 rfl ?_
    refine T_aload_n (pc := 47) dX12_saysNext_47 rfl rfl ?_
    refine T_gR (pc := 48) fa_X12_13 dX12_saysNext_48 (gR_mono (fun x15 H => ?_) H)
    refine T_iload (pc := 51) dX12_saysNext_51 rfl ?_
    refine T_aI (pc := 53) dX12_saysNext_53 (aI_mono (fun x16 H => ?_) H)
    refine T_icmp_ne (pc := 54) (tgt := 81) dX12_saysNext_54 (by decide) (fun hc => ?_) (fun hc => ?_)
    · rw [if_neg hc] at H
      refine T_iload (pc := 81) dX12_saysNext_81 rfl ?_
      refine T_if_le (pc := 83) (tgt := 92) dX12_saysNext_83 (by decide) (fun hc => ?_) (fun hc => ?_)
      · rw [if_pos hc] at H
        exact T.forget (E_X12_saysNext_92 H) ⟨rfl, rfl, rfl, rfl, trivial⟩
      · rw [if_neg hc] at H
        refine T_aload_n (pc := 86) dX12_saysNext_86 rfl rfl ?_
        refine T_bipush (pc := 87) (v := 32) dX12_saysNext_87 (by decide) ?_
        obtain ⟨H0, H⟩ := H
        refine T_iV (pc := 89) (ci := 11) (av := [jI 32]) (rest := []) (o := v0) dX12_saysNext_89 mf_X12_says c_6_155 c_6_157 pr_X12_says rfl rfl (Nat.le_of_ble_eq_true rfl) rfl H0 (iV_k (iV_m0 (fun h H => ?_) (J_X12_says (d := (d + 3)) H)))
        exact T.forget (E_X12_saysNext_92 H) ⟨rfl, rfl, rfl, rfl, trivial⟩
    · rw [if_pos hc] at H
      refine T_aload_n (pc := 57) dX12_saysNext_57 rfl rfl ?_
      refine T_bipush (pc := 58) (v := 93) dX12_saysNext_58 (by decide) ?_
      obtain ⟨H0, H⟩ := H
      refine T_iV (pc := 60) (ci := 11) (av := [jI 93]) (rest := []) (o := v0) dX12_saysNext_60 mf_X12_says c_6_155 c_6_157 pr_X12_says rfl rfl (Nat.le_of_ble_eq_true rfl) rfl H0 (iV_k (iV_m0 (fun h H => ?_) (J_X12_says (d := (d + 3)) H)))
      refine T_aload_n (pc := 63) dX12_saysNext_63 rfl rfl ?_
      refine T_gR (pc := 64) fa_X12_99 dX12_saysNext_64 (gR_mono (fun x19 H => ?_) H)
      refine T_iload_n (pc := 67) dX12_saysNext_67 rfl rfl ?_
      refine T_iconst (pc := 68) (v := (-1)) dX12_saysNext_68 (by decide) ?_
      refine T_sI (pc := 69) dX12_saysNext_69 (sV_mono (fun h H => ?_) H)
      refine T_aload_n (pc := 70) dX12_saysNext_70 rfl rfl ?_
      refine T_gR (pc := 71) fa_X12_96 dX12_saysNext_71 (gR_mono (fun x20 H => ?_) H)
      refine T_iload_n (pc := 74) dX12_saysNext_74 rfl rfl ?_
      refine T_dup2 (pc := 75) rfl rfl dX12_saysNext_75 ?_
      refine T_aI (pc := 76) dX12_saysNext_76 (aI_mono (fun x21 H => ?_) H)
      refine T_iconst (pc := 77) (v := 1) dX12_saysNext_77 (by decide) ?_
      refine T_iadd (pc := 78) dX12_saysNext_78 ?_
      refine T_sI (pc := 79) dX12_saysNext_79 (sV_mono (fun h H => ?_) H)
      exact T_return (pc := 80) rfl dX12_saysNext_80 H
theorem I_X12_saysNext {d : Nat} {v0 : Option Nm} {v1 : Int32} {h : MH} {u : Nat} {K : MH → Nat → Prop} (u1 : Nat) (hu : u1 ≤ u) (H : F_X12_saysNext d v0 v1 h u1 (fun h2 => K h2 (u - u1))) : iV (d + 4) u_X12_saysNext [jR v0, jI v1] h u K := inv.of u1 hu (Ct.of (by decide +kernel) rfl (Nat.le_of_ble_eq_true rfl) rfl (E_X12_saysNext H))
theorem J_X12_saysNext {d : Nat} {v0 : Option Nm} {v1 : Int32} {h : MH} {u : Nat} {K : MH → Prop} (H : F_X12_saysNext d v0 v1 h 0 K) : iV (d + 4) u_X12_saysNext [jR v0, jI v1] h u (fun h2 u2 => K h2 ∧ u2 = u) := jiV (by decide +kernel) rfl (Nat.le_of_ble_eq_true rfl) rfl (E_X12_saysNext H)
