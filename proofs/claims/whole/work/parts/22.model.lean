theorem dX12_isKind_0 : decode cX12_isKind 0 = .ok (.iload_n 1, 1) := by decide +kernel
theorem dX12_isKind_1 : decode cX12_isKind 1 = .ok (.iconst 0, 1) := by decide +kernel
theorem dX12_isKind_2 : decode cX12_isKind 2 = .ok (.aload_n 0, 1) := by decide +kernel
theorem dX12_isKind_3 : decode cX12_isKind 3 = .ok (.getfield 199, 3) := by decide +kernel
theorem dX12_isKind_6 : decode cX12_isKind 6 = .ok (.iconst 1, 1) := by decide +kernel
theorem dX12_isKind_7 : decode cX12_isKind 7 = .ok (.isub, 1) := by decide +kernel
theorem dX12_isKind_8 : decode cX12_isKind 8 = .ok (.invokestatic 156, 3) := by decide +kernel
theorem dX12_isKind_11 : decode cX12_isKind 11 = .ok (.ireturn, 1) := by decide +kernel
def F_X12_isKind (d : Nat) (v0 : Option Nm) (v1 : Int32) (h : MH) (u : Nat) (Q : Int32 → MH → Prop) : Prop :=
  gI h v0 11 9 fun x1 =>
  F_X12_in d v1 0 (x1 - 1) h 0 fun x2 h =>
  nz x2 ∧ Q x2 h
set_option maxRecDepth 20000 in
theorem E_X12_isKind {d : Nat} {v0 : Option Nm} {v1 : Int32} {h : MH} {u : Nat} {Q : Int32 → MH → Prop} (H : F_X12_isKind d v0 v1 h u Q) : T u_X12_isKind (d + 1) 0 [some (jR v0), some (jI v1)] [] h u (qI Q) := by
  unfold F_X12_isKind at H
  refine T_iload_n (pc := 0) dX12_isKind_0 rfl rfl ?_
  refine T_iconst (pc := 1) (v := 0) dX12_isKind_1 (by decide) ?_
  refine T_aload_n (pc := 2) dX12_isKind_2 rfl rfl ?_
  refine T_gI (pc := 3) fa_X12_199 dX12_isKind_3 (gI_mono (fun x1 H => ?_) H)
  refine T_iconst (pc := 6) (v := 1) dX12_isKind_6 (by decide) ?_
  refine T_isub (pc := 7) dX12_isKind_7 ?_
  refine T_invS (pc := 8) (av := [jI v1, jI 0, jI (x1 - 1)]) (rest := []) dX12_isKind_8 mf_X12_in c_5_86 c_5_87 rfl (Nat.le_of_ble_eq_true rfl) rfl (iI_k (iI_m0 (fun x2 h H => ?_) (J_X12_in (d := d) H)))
  exact T_ireturn (pc := 11) rfl (nz_nar H.1) dX12_isKind_11 H.2
theorem I_X12_isKind {d : Nat} {v0 : Option Nm} {v1 : Int32} {h : MH} {u : Nat} {K : Int32 → MH → Nat → Prop} (u1 : Nat) (hu : u1 ≤ u) (H : F_X12_isKind d v0 v1 h u1 (fun x h2 => K x h2 (u - u1))) : iI (d + 1) u_X12_isKind [jR v0, jI v1] h u K := inv.of u1 hu (Ct.of (by decide +kernel) rfl (Nat.le_of_ble_eq_true rfl) rfl (E_X12_isKind H))
theorem J_X12_isKind {d : Nat} {v0 : Option Nm} {v1 : Int32} {h : MH} {u : Nat} {K : Int32 → MH → Prop} (H : F_X12_isKind d v0 v1 h 0 K) : iI (d + 1) u_X12_isKind [jR v0, jI v1] h u (fun x h2 u2 => K x h2 ∧ u2 = u) := jiI (by decide +kernel) rfl (Nat.le_of_ble_eq_true rfl) rfl (E_X12_isKind H)
theorem dX12_newConstant_0 : decode cX12_newConstant 0 = .ok (.aload_n 0, 1) := by decide +kernel
theorem dX12_newConstant_1 : decode cX12_newConstant 1 = .ok (.iload_n 1, 1) := by decide +kernel
theorem dX12_newConstant_2 : decode cX12_newConstant 2 = .ok (.invokevirtual 212, 3) := by decide +kernel
theorem dX12_newConstant_5 : decode cX12_newConstant 5 = .ok (.istore_n 3, 1) := by decide +kernel
theorem dX12_newConstant_6 : decode cX12_newConstant 6 = .ok (.aload_n 0, 1) := by decide +kernel
theorem dX12_newConstant_7 : decode cX12_newConstant 7 = .ok (.getfield 81, 3) := by decide +kernel
theorem dX12_newConstant_10 : decode cX12_newConstant 10 = .ok (.iload_n 3, 1) := by decide +kernel
theorem dX12_newConstant_11 : decode cX12_newConstant 11 = .ok (.iload_n 2, 1) := by decide +kernel
theorem dX12_newConstant_12 : decode cX12_newConstant 12 = .ok (.iastore, 1) := by decide +kernel
theorem dX12_newConstant_13 : decode cX12_newConstant 13 = .ok (.aload_n 0, 1) := by decide +kernel
theorem dX12_newConstant_14 : decode cX12_newConstant 14 = .ok (.getfield 75, 3) := by decide +kernel
theorem dX12_newConstant_17 : decode cX12_newConstant 17 = .ok (.iload_n 3, 1) := by decide +kernel
theorem dX12_newConstant_18 : decode cX12_newConstant 18 = .ok (.iconst 1, 1) := by decide +kernel
theorem dX12_newConstant_19 : decode cX12_newConstant 19 = .ok (.iastore, 1) := by decide +kernel
theorem dX12_newConstant_20 : decode cX12_newConstant 20 = .ok (.aload_n 0, 1) := by decide +kernel
theorem dX12_newConstant_21 : decode cX12_newConstant 21 = .ok (.getfield 78, 3) := by decide +kernel
theorem dX12_newConstant_24 : decode cX12_newConstant 24 = .ok (.iload_n 3, 1) := by decide +kernel
theorem dX12_newConstant_25 : decode cX12_newConstant 25 = .ok (.iconst 1, 1) := by decide +kernel
theorem dX12_newConstant_26 : decode cX12_newConstant 26 = .ok (.iastore, 1) := by decide +kernel
theorem dX12_newConstant_27 : decode cX12_newConstant 27 = .ok (.iload_n 3, 1) := by decide +kernel
theorem dX12_newConstant_28 : decode cX12_newConstant 28 = .ok (.ireturn, 1) := by decide +kernel
def F_X12_newConstant (d : Nat) (v0 : Option Nm) (v1 : Int32) (v2 : Int32) (h : MH) (u : Nat) (Q : Int32 → MH → Prop) : Prop :=
  rc h v0 11 ∧ F_X12_newValue d v0 v1 h 0 fun x1 h =>
  gR h v0 11 30 fun x2 =>
  sV .int h x2 x1 (jI v2) fun h =>
  gR h v0 11 28 fun x3 =>
  sV .int h x3 x1 (jI 1) fun h =>
  gR h v0 11 29 fun x4 =>
  sV .int h x4 x1 (jI 1) fun h =>
  Q x1 h
set_option maxRecDepth 20000 in
theorem E_X12_newConstant {d : Nat} {v0 : Option Nm} {v1 : Int32} {v2 : Int32} {h : MH} {u : Nat} {Q : Int32 → MH → Prop} (H : F_X12_newConstant d v0 v1 v2 h u Q) : T u_X12_newConstant (d + 1) 0 [some (jR v0), some (jI v1), some (jI v2), none] [] h u (qI Q) := by
  unfold F_X12_newConstant at H
  refine T_aload_n (pc := 0) dX12_newConstant_0 rfl rfl ?_
  refine T_iload_n (pc := 1) dX12_newConstant_1 rfl rfl ?_
  obtain ⟨H0, H⟩ := H
  refine T_iV (pc := 2) (ci := 11) (av := [jI v1]) (rest := []) (o := v0) dX12_newConstant_2 mf_X12_newValue c_5_218 c_5_220 pr_X12_newValue rfl rfl (Nat.le_of_ble_eq_true rfl) rfl H0 (iI_k (iI_m0 (fun x1 h H => ?_) (J_X12_newValue (d := d) H)))
  refine T_istore_n (pc := 5) (ls2 := [some (jR v0), some (jI v1), some (jI v2), some (jI x1)]) dX12_newConstant_5 rfl (Nat.le_of_ble_eq_true rfl) rfl ?_
  refine T_aload_n (pc := 6) dX12_newConstant_6 rfl rfl ?_
  refine T_gR (pc := 7) fa_X12_81 dX12_newConstant_7 (gR_mono (fun x2 H => ?_) H)
  refine T_iload_n (pc := 10) dX12_newConstant_10 rfl rfl ?_
  refine T_iload_n (pc := 11) dX12_newConstant_11 rfl rfl ?_
  refine T_sI (pc := 12) dX12_newConstant_12 (sV_mono (fun h H => ?_) H)
  refine T_aload_n (pc := 13) dX12_newConstant_13 rfl rfl ?_
  refine T_gR (pc := 14) fa_X12_75 dX12_newConstant_14 (gR_mono (fun x3 H => ?_) H)
  refine T_iload_n (pc := 17) dX12_newConstant_17 rfl rfl ?_
  refine T_iconst (pc := 18) (v := 1) dX12_newConstant_18 (by decide) ?_
  refine T_sI (pc := 19) dX12_newConstant_19 (sV_mono (fun h H => ?_) H)
  refine T_aload_n (pc := 20) dX12_newConstant_20 rfl rfl ?_
  refine T_gR (pc := 21) fa_X12_78 dX12_newConstant_21 (gR_mono (fun x4 H => ?_) H)
  refine T_iload_n (pc := 24) dX12_newConstant_24 rfl rfl ?_
  refine T_iconst (pc := 25) (v := 1) dX12_newConstant_25 (by decide) ?_
  refine T_sI (pc := 26) dX12_newConstant_26 (sV_mono (fun h H => ?_) H)
  refine T_iload_n (pc := 27) dX12_newConstant_27 rfl rfl ?_
  exact T_ireturn (pc := 28) rfl rfl dX12_newConstant_28 H
theorem I_X12_newConstant {d : Nat} {v0 : Option Nm} {v1 : Int32} {v2 : Int32} {h : MH} {u : Nat} {K : Int32 → MH → Nat → Prop} (u1 : Nat) (hu : u1 ≤ u) (H : F_X12_newConstant d v0 v1 v2 h u1 (fun x h2 => K x h2 (u - u1))) : iI (d + 1) u_X12_newConstant [jR v0, jI v1, jI v2] h u K := inv.of u1 hu (Ct.of (by decide +kernel) rfl (Nat.le_of_ble_eq_true rfl) rfl (E_X12_newConstant H))
theorem J_X12_newConstant {d : Nat} {v0 : Option Nm} {v1 : Int32} {v2 : Int32} {h : MH} {u : Nat} {K : Int32 → MH → Prop} (H : F_X12_newConstant d v0 v1 v2 h 0 K) : iI (d + 1) u_X12_newConstant [jR v0, jI v1, jI v2] h u (fun x h2 u2 => K x h2 ∧ u2 = u) := jiI (by decide +kernel) rfl (Nat.le_of_ble_eq_true rfl) rfl (E_X12_newConstant H)
theorem dX12_edition_0 : decode cX12_edition 0 = .ok (.aload_n 0, 1) := by decide +kernel
theorem dX12_edition_1 : decode cX12_edition 1 = .ok (.iload_n 1, 1) := by decide +kernel
theorem dX12_edition_2 : decode cX12_edition 2 = .ok (.invokevirtual 206, 3) := by decide +kernel
theorem dX12_edition_5 : decode cX12_edition 5 = .ok (.ifCond .ne 5, 3) := by decide +kernel
theorem dX12_edition_8 : decode cX12_edition 8 = .ok (.iconst (-1), 1) := by decide +kernel
theorem dX12_edition_9 : decode cX12_edition 9 = .ok (.ireturn, 1) := by decide +kernel
theorem dX12_edition_10 : decode cX12_edition 10 = .ok (.aload_n 0, 1) := by decide +kernel
theorem dX12_edition_11 : decode cX12_edition 11 = .ok (.getfield 27, 3) := by decide +kernel
theorem dX12_edition_14 : decode cX12_edition 14 = .ok (.iload_n 1, 1) := by decide +kernel
theorem dX12_edition_15 : decode cX12_edition 15 = .ok (.baload, 1) := by decide +kernel
theorem dX12_edition_16 : decode cX12_edition 16 = .ok (.istore 5, 2) := by decide +kernel
theorem dX12_edition_18 : decode cX12_edition 18 = .ok (.iload_n 2, 1) := by decide +kernel
theorem dX12_edition_19 : decode cX12_edition 19 = .ok (.iconst 0, 1) := by decide +kernel
theorem dX12_edition_20 : decode cX12_edition 20 = .ok (.iconst 3, 1) := by decide +kernel
theorem dX12_edition_21 : decode cX12_edition 21 = .ok (.invokestatic 156, 3) := by decide +kernel
theorem dX12_edition_24 : decode cX12_edition 24 = .ok (.ifCond .eq 43, 3) := by decide +kernel
theorem dX12_edition_27 : decode cX12_edition 27 = .ok (.iload_n 2, 1) := by decide +kernel
theorem dX12_edition_28 : decode cX12_edition 28 = .ok (.iconst 3, 1) := by decide +kernel
theorem dX12_edition_29 : decode cX12_edition 29 = .ok (.if_icmp .eq 13, 3) := by decide +kernel
theorem dX12_edition_32 : decode cX12_edition 32 = .ok (.iload_n 3, 1) := by decide +kernel
theorem dX12_edition_33 : decode cX12_edition 33 = .ok (.iconst 1, 1) := by decide +kernel
theorem dX12_edition_34 : decode cX12_edition 34 = .ok (.bipush 99, 2) := by decide +kernel
theorem dX12_edition_36 : decode cX12_edition 36 = .ok (.invokestatic 156, 3) := by decide +kernel
theorem dX12_edition_39 : decode cX12_edition 39 = .ok (.ifCond .eq 28, 3) := by decide +kernel
theorem dX12_edition_42 : decode cX12_edition 42 = .ok (.iload 5, 2) := by decide +kernel
theorem dX12_edition_44 : decode cX12_edition 44 = .ok (.ifCond .ne 26, 3) := by decide +kernel
theorem dX12_edition_47 : decode cX12_edition 47 = .ok (.iload_n 2, 1) := by decide +kernel
theorem dX12_edition_48 : decode cX12_edition 48 = .ok (.ifCond .eq 8, 3) := by decide +kernel
theorem dX12_edition_51 : decode cX12_edition 51 = .ok (.iload_n 2, 1) := by decide +kernel
theorem dX12_edition_52 : decode cX12_edition 52 = .ok (.iconst 2, 1) := by decide +kernel
theorem dX12_edition_53 : decode cX12_edition 53 = .ok (.if_icmp .ne 17, 3) := by decide +kernel
theorem dX12_edition_56 : decode cX12_edition 56 = .ok (.iload 4, 2) := by decide +kernel
theorem dX12_edition_58 : decode cX12_edition 58 = .ok (.iconst 0, 1) := by decide +kernel
theorem dX12_edition_59 : decode cX12_edition 59 = .ok (.bipush 9, 2) := by decide +kernel
theorem dX12_edition_61 : decode cX12_edition 61 = .ok (.invokestatic 156, 3) := by decide +kernel
theorem dX12_edition_64 : decode cX12_edition 64 = .ok (.ifCond .ne 6, 3) := by decide +kernel
theorem dX12_edition_67 : decode cX12_edition 67 = .ok (.bipush (-2), 2) := by decide +kernel
theorem dX12_edition_69 : decode cX12_edition 69 = .ok (.ireturn, 1) := by decide +kernel
theorem dX12_edition_70 : decode cX12_edition 70 = .ok (.aload_n 0, 1) := by decide +kernel
theorem dX12_edition_71 : decode cX12_edition 71 = .ok (.iload_n 1, 1) := by decide +kernel
theorem dX12_edition_72 : decode cX12_edition 72 = .ok (.invokevirtual 225, 3) := by decide +kernel
theorem dX12_edition_75 : decode cX12_edition 75 = .ok (.istore 6, 2) := by decide +kernel
theorem dX12_edition_77 : decode cX12_edition 77 = .ok (.iload_n 2, 1) := by decide +kernel
theorem dX12_edition_78 : decode cX12_edition 78 = .ok (.iconst 3, 1) := by decide +kernel
theorem dX12_edition_79 : decode cX12_edition 79 = .ok (.if_icmp .ne 7, 3) := by decide +kernel
theorem dX12_edition_82 : decode cX12_edition 82 = .ok (.iconst (-1), 1) := by decide +kernel
theorem dX12_edition_83 : decode cX12_edition 83 = .ok (.goto 10, 3) := by decide +kernel
theorem dX12_edition_86 : decode cX12_edition 86 = .ok (.aload_n 0, 1) := by decide +kernel
theorem dX12_edition_87 : decode cX12_edition 87 = .ok (.iload 6, 2) := by decide +kernel
theorem dX12_edition_89 : decode cX12_edition 89 = .ok (.iload_n 3, 1) := by decide +kernel
theorem dX12_edition_90 : decode cX12_edition 90 = .ok (.invokevirtual 209, 3) := by decide +kernel
theorem dX12_edition_93 : decode cX12_edition 93 = .ok (.istore 7, 2) := by decide +kernel
theorem dX12_edition_95 : decode cX12_edition 95 = .ok (.aload_n 0, 1) := by decide +kernel
theorem dX12_edition_96 : decode cX12_edition 96 = .ok (.getfield 33, 3) := by decide +kernel
theorem dX12_edition_99 : decode cX12_edition 99 = .ok (.iload_n 1, 1) := by decide +kernel
theorem dX12_edition_100 : decode cX12_edition 100 = .ok (.baload, 1) := by decide +kernel
theorem dX12_edition_101 : decode cX12_edition 101 = .ok (.ifCond .eq 37, 3) := by decide +kernel
theorem dX12_edition_104 : decode cX12_edition 104 = .ok (.iload 5, 2) := by decide +kernel
theorem dX12_edition_106 : decode cX12_edition 106 = .ok (.ifCond .eq 8, 3) := by decide +kernel
theorem dX12_edition_109 : decode cX12_edition 109 = .ok (.iload_n 2, 1) := by decide +kernel
theorem dX12_edition_110 : decode cX12_edition 110 = .ok (.iconst 2, 1) := by decide +kernel
theorem dX12_edition_111 : decode cX12_edition 111 = .ok (.if_icmp .eq 27, 3) := by decide +kernel
theorem dX12_edition_114 : decode cX12_edition 114 = .ok (.iload_n 2, 1) := by decide +kernel
theorem dX12_edition_115 : decode cX12_edition 115 = .ok (.ifCond .ne 8, 3) := by decide +kernel
theorem dX12_edition_118 : decode cX12_edition 118 = .ok (.iload 7, 2) := by decide +kernel
theorem dX12_edition_120 : decode cX12_edition 120 = .ok (.ifCond .ge 18, 3) := by decide +kernel
theorem dX12_edition_123 : decode cX12_edition 123 = .ok (.iload_n 2, 1) := by decide +kernel
theorem dX12_edition_124 : decode cX12_edition 124 = .ok (.iconst 1, 1) := by decide +kernel
theorem dX12_edition_125 : decode cX12_edition 125 = .ok (.if_icmp .eq 8, 3) := by decide +kernel
theorem dX12_edition_128 : decode cX12_edition 128 = .ok (.iload_n 2, 1) := by decide +kernel
theorem dX12_edition_129 : decode cX12_edition 129 = .ok (.iconst 2, 1) := by decide +kernel
theorem dX12_edition_130 : decode cX12_edition 130 = .ok (.if_icmp .ne 11, 3) := by decide +kernel
theorem dX12_edition_133 : decode cX12_edition 133 = .ok (.iload 7, 2) := by decide +kernel
theorem dX12_edition_135 : decode cX12_edition 135 = .ok (.ifCond .ge 6, 3) := by decide +kernel
theorem dX12_edition_138 : decode cX12_edition 138 = .ok (.bipush (-3), 2) := by decide +kernel
theorem dX12_edition_140 : decode cX12_edition 140 = .ok (.ireturn, 1) := by decide +kernel
theorem dX12_edition_141 : decode cX12_edition 141 = .ok (.aload_n 0, 1) := by decide +kernel
theorem dX12_edition_142 : decode cX12_edition 142 = .ok (.getfield 36, 3) := by decide +kernel
theorem dX12_edition_145 : decode cX12_edition 145 = .ok (.iload_n 1, 1) := by decide +kernel
theorem dX12_edition_146 : decode cX12_edition 146 = .ok (.iaload, 1) := by decide +kernel
theorem dX12_edition_147 : decode cX12_edition 147 = .ok (.iconst 3, 1) := by decide +kernel
theorem dX12_edition_148 : decode cX12_edition 148 = .ok (.if_icmp .eq 44, 3) := by decide +kernel
theorem dX12_edition_151 : decode cX12_edition 151 = .ok (.iload_n 2, 1) := by decide +kernel
theorem dX12_edition_152 : decode cX12_edition 152 = .ok (.ifCond .ne 43, 3) := by decide +kernel
theorem dX12_edition_155 : decode cX12_edition 155 = .ok (.aload_n 0, 1) := by decide +kernel
theorem dX12_edition_156 : decode cX12_edition 156 = .ok (.getfield 42, 3) := by decide +kernel
theorem dX12_edition_159 : decode cX12_edition 159 = .ok (.iload 6, 2) := by decide +kernel
theorem dX12_edition_161 : decode cX12_edition 161 = .ok (.iaload, 1) := by decide +kernel
theorem dX12_edition_162 : decode cX12_edition 162 = .ok (.iload 5, 2) := by decide +kernel
theorem dX12_edition_164 : decode cX12_edition 164 = .ok (.ifCond .eq 8, 3) := by decide +kernel
theorem dX12_edition_167 : decode cX12_edition 167 = .ok (.bipush 8, 2) := by decide +kernel
theorem dX12_edition_169 : decode cX12_edition 169 = .ok (.goto 5, 3) := by decide +kernel
theorem dX12_edition_172 : decode cX12_edition 172 = .ok (.bipush 6, 2) := by decide +kernel
theorem dX12_edition_174 : decode cX12_edition 174 = .ok (.if_icmp .eq 18, 3) := by decide +kernel
theorem dX12_edition_177 : decode cX12_edition 177 = .ok (.iload 5, 2) := by decide +kernel
theorem dX12_edition_179 : decode cX12_edition 179 = .ok (.ifCond .eq 16, 3) := by decide +kernel
theorem dX12_edition_182 : decode cX12_edition 182 = .ok (.aload_n 0, 1) := by decide +kernel
theorem dX12_edition_183 : decode cX12_edition 183 = .ok (.getfield 215, 3) := by decide +kernel
theorem dX12_edition_186 : decode cX12_edition 186 = .ok (.sipush 200, 3) := by decide +kernel
theorem dX12_edition_189 : decode cX12_edition 189 = .ok (.if_icmp .ne 6, 3) := by decide +kernel
theorem dX12_edition_192 : decode cX12_edition 192 = .ok (.bipush (-4), 2) := by decide +kernel
theorem dX12_edition_194 : decode cX12_edition 194 = .ok (.ireturn, 1) := by decide +kernel
theorem dX12_edition_195 : decode cX12_edition 195 = .ok (.aload_n 0, 1) := by decide +kernel
theorem dX12_edition_196 : decode cX12_edition 196 = .ok (.getfield 36, 3) := by decide +kernel
theorem dX12_edition_199 : decode cX12_edition 199 = .ok (.iload_n 1, 1) := by decide +kernel
theorem dX12_edition_200 : decode cX12_edition 200 = .ok (.dup2, 1) := by decide +kernel
theorem dX12_edition_201 : decode cX12_edition 201 = .ok (.iaload, 1) := by decide +kernel
theorem dX12_edition_202 : decode cX12_edition 202 = .ok (.iconst 1, 1) := by decide +kernel
theorem dX12_edition_203 : decode cX12_edition 203 = .ok (.iadd, 1) := by decide +kernel
theorem dX12_edition_204 : decode cX12_edition 204 = .ok (.iastore, 1) := by decide +kernel
theorem dX12_edition_205 : decode cX12_edition 205 = .ok (.iconst 0, 1) := by decide +kernel
theorem dX12_edition_206 : decode cX12_edition 206 = .ok (.istore 8, 2) := by decide +kernel
theorem dX12_edition_208 : decode cX12_edition 208 = .ok (.iconst 0, 1) := by decide +kernel
theorem dX12_edition_209 : decode cX12_edition 209 = .ok (.istore 9, 2) := by decide +kernel
theorem dX12_edition_211 : decode cX12_edition 211 = .ok (.iload 9, 2) := by decide +kernel
theorem dX12_edition_213 : decode cX12_edition 213 = .ok (.aload_n 0, 1) := by decide +kernel
theorem dX12_edition_214 : decode cX12_edition 214 = .ok (.getfield 42, 3) := by decide +kernel
theorem dX12_edition_217 : decode cX12_edition 217 = .ok (.iload 6, 2) := by decide +kernel
theorem dX12_edition_219 : decode cX12_edition 219 = .ok (.iaload, 1) := by decide +kernel
theorem dX12_edition_220 : decode cX12_edition 220 = .ok (.if_icmp .ge 128, 3) := by decide +kernel
theorem dX12_edition_223 : decode cX12_edition 223 = .ok (.bipush 8, 2) := by decide +kernel
theorem dX12_edition_225 : decode cX12_edition 225 = .ok (.iload 6, 2) := by decide +kernel
theorem dX12_edition_227 : decode cX12_edition 227 = .ok (.imul, 1) := by decide +kernel
theorem dX12_edition_228 : decode cX12_edition 228 = .ok (.iload_n 2, 1) := by decide +kernel
theorem dX12_edition_229 : decode cX12_edition 229 = .ok (.iconst 3, 1) := by decide +kernel
theorem dX12_edition_230 : decode cX12_edition 230 = .ok (.if_icmp .ne 18, 3) := by decide +kernel
theorem dX12_edition_233 : decode cX12_edition 233 = .ok (.aload_n 0, 1) := by decide +kernel
theorem dX12_edition_234 : decode cX12_edition 234 = .ok (.getfield 42, 3) := by decide +kernel
theorem dX12_edition_237 : decode cX12_edition 237 = .ok (.iload 6, 2) := by decide +kernel
theorem dX12_edition_239 : decode cX12_edition 239 = .ok (.iaload, 1) := by decide +kernel
theorem dX12_edition_240 : decode cX12_edition 240 = .ok (.iconst 1, 1) := by decide +kernel
theorem dX12_edition_241 : decode cX12_edition 241 = .ok (.isub, 1) := by decide +kernel
theorem dX12_edition_242 : decode cX12_edition 242 = .ok (.iload 9, 2) := by decide +kernel
theorem dX12_edition_244 : decode cX12_edition 244 = .ok (.isub, 1) := by decide +kernel
theorem dX12_edition_245 : decode cX12_edition 245 = .ok (.goto 5, 3) := by decide +kernel
theorem dX12_edition_248 : decode cX12_edition 248 = .ok (.iload 9, 2) := by decide +kernel
theorem dX12_edition_250 : decode cX12_edition 250 = .ok (.iadd, 1) := by decide +kernel
theorem dX12_edition_251 : decode cX12_edition 251 = .ok (.istore 10, 2) := by decide +kernel
theorem dX12_edition_253 : decode cX12_edition 253 = .ok (.iload_n 2, 1) := by decide +kernel
theorem dX12_edition_254 : decode cX12_edition 254 = .ok (.iconst 1, 1) := by decide +kernel
theorem dX12_edition_255 : decode cX12_edition 255 = .ok (.if_icmp .ne 13, 3) := by decide +kernel
theorem dX12_edition_258 : decode cX12_edition 258 = .ok (.iload 9, 2) := by decide +kernel
theorem dX12_edition_260 : decode cX12_edition 260 = .ok (.iload 7, 2) := by decide +kernel
theorem dX12_edition_262 : decode cX12_edition 262 = .ok (.if_icmp .ne 6, 3) := by decide +kernel
theorem dX12_edition_265 : decode cX12_edition 265 = .ok (.goto 77, 3) := by decide +kernel
theorem dX12_edition_268 : decode cX12_edition 268 = .ok (.bipush 8, 2) := by decide +kernel
theorem dX12_edition_270 : decode cX12_edition 270 = .ok (.iload 6, 2) := by decide +kernel
theorem dX12_edition_272 : decode cX12_edition 272 = .ok (.iconst 1, 1) := by decide +kernel
theorem dX12_edition_273 : decode cX12_edition 273 = .ok (.iadd, 1) := by decide +kernel
theorem dX12_edition_274 : decode cX12_edition 274 = .ok (.imul, 1) := by decide +kernel
theorem dX12_edition_275 : decode cX12_edition 275 = .ok (.iload 8, 2) := by decide +kernel
theorem dX12_edition_277 : decode cX12_edition 277 = .ok (.iadd, 1) := by decide +kernel
theorem dX12_edition_278 : decode cX12_edition 278 = .ok (.istore 11, 2) := by decide +kernel
theorem dX12_edition_280 : decode cX12_edition 280 = .ok (.aload_n 0, 1) := by decide +kernel
theorem dX12_edition_281 : decode cX12_edition 281 = .ok (.getfield 45, 3) := by decide +kernel
theorem dX12_edition_284 : decode cX12_edition 284 = .ok (.iload 11, 2) := by decide +kernel
theorem dX12_edition_286 : decode cX12_edition 286 = .ok (.aload_n 0, 1) := by decide +kernel
theorem dX12_edition_287 : decode cX12_edition 287 = .ok (.getfield 45, 3) := by decide +kernel
theorem dX12_edition_290 : decode cX12_edition 290 = .ok (.iload 10, 2) := by decide +kernel
theorem dX12_edition_292 : decode cX12_edition 292 = .ok (.iaload, 1) := by decide +kernel
theorem dX12_edition_293 : decode cX12_edition 293 = .ok (.iastore, 1) := by decide +kernel
theorem dX12_edition_294 : decode cX12_edition 294 = .ok (.aload_n 0, 1) := by decide +kernel
theorem dX12_edition_295 : decode cX12_edition 295 = .ok (.getfield 48, 3) := by decide +kernel
theorem dX12_edition_298 : decode cX12_edition 298 = .ok (.iload 11, 2) := by decide +kernel
theorem dX12_edition_300 : decode cX12_edition 300 = .ok (.iload_n 2, 1) := by decide +kernel
theorem dX12_edition_301 : decode cX12_edition 301 = .ok (.iconst 2, 1) := by decide +kernel
theorem dX12_edition_302 : decode cX12_edition 302 = .ok (.if_icmp .ne 15, 3) := by decide +kernel
theorem dX12_edition_305 : decode cX12_edition 305 = .ok (.iload 9, 2) := by decide +kernel
theorem dX12_edition_307 : decode cX12_edition 307 = .ok (.iload 7, 2) := by decide +kernel
theorem dX12_edition_309 : decode cX12_edition 309 = .ok (.if_icmp .ne 8, 3) := by decide +kernel
theorem dX12_edition_312 : decode cX12_edition 312 = .ok (.iload 4, 2) := by decide +kernel
theorem dX12_edition_314 : decode cX12_edition 314 = .ok (.goto 10, 3) := by decide +kernel
theorem dX12_edition_317 : decode cX12_edition 317 = .ok (.aload_n 0, 1) := by decide +kernel
theorem dX12_edition_318 : decode cX12_edition 318 = .ok (.getfield 48, 3) := by decide +kernel
theorem dX12_edition_321 : decode cX12_edition 321 = .ok (.iload 10, 2) := by decide +kernel
theorem dX12_edition_323 : decode cX12_edition 323 = .ok (.iaload, 1) := by decide +kernel
theorem dX12_edition_324 : decode cX12_edition 324 = .ok (.iastore, 1) := by decide +kernel
theorem dX12_edition_325 : decode cX12_edition 325 = .ok (.aload_n 0, 1) := by decide +kernel
theorem dX12_edition_326 : decode cX12_edition 326 = .ok (.getfield 51, 3) := by decide +kernel
theorem dX12_edition_329 : decode cX12_edition 329 = .ok (.iload 11, 2) := by decide +kernel
theorem dX12_edition_331 : decode cX12_edition 331 = .ok (.aload_n 0, 1) := by decide +kernel
theorem dX12_edition_332 : decode cX12_edition 332 = .ok (.getfield 51, 3) := by decide +kernel
theorem dX12_edition_335 : decode cX12_edition 335 = .ok (.iload 10, 2) := by decide +kernel
theorem dX12_edition_337 : decode cX12_edition 337 = .ok (.iaload, 1) := by decide +kernel
theorem dX12_edition_338 : decode cX12_edition 338 = .ok (.iastore, 1) := by decide +kernel
theorem dX12_edition_339 : decode cX12_edition 339 = .ok (.iinc 8 1, 3) := by decide +kernel
theorem dX12_edition_342 : decode cX12_edition 342 = .ok (.iinc 9 1, 3) := by decide +kernel
theorem dX12_edition_345 : decode cX12_edition 345 = .ok (.goto (-134), 3) := by decide +kernel
theorem dX12_edition_348 : decode cX12_edition 348 = .ok (.iload_n 2, 1) := by decide +kernel
theorem dX12_edition_349 : decode cX12_edition 349 = .ok (.ifCond .ne 57, 3) := by decide +kernel
theorem dX12_edition_352 : decode cX12_edition 352 = .ok (.bipush 8, 2) := by decide +kernel
theorem dX12_edition_354 : decode cX12_edition 354 = .ok (.iload 6, 2) := by decide +kernel
theorem dX12_edition_356 : decode cX12_edition 356 = .ok (.iconst 1, 1) := by decide +kernel
theorem dX12_edition_357 : decode cX12_edition 357 = .ok (.iadd, 1) := by decide +kernel
theorem dX12_edition_358 : decode cX12_edition 358 = .ok (.imul, 1) := by decide +kernel
theorem dX12_edition_359 : decode cX12_edition 359 = .ok (.iload 8, 2) := by decide +kernel
theorem dX12_edition_361 : decode cX12_edition 361 = .ok (.iadd, 1) := by decide +kernel
theorem dX12_edition_362 : decode cX12_edition 362 = .ok (.istore 9, 2) := by decide +kernel
theorem dX12_edition_364 : decode cX12_edition 364 = .ok (.aload_n 0, 1) := by decide +kernel
theorem dX12_edition_365 : decode cX12_edition 365 = .ok (.getfield 45, 3) := by decide +kernel
theorem dX12_edition_368 : decode cX12_edition 368 = .ok (.iload 9, 2) := by decide +kernel
theorem dX12_edition_370 : decode cX12_edition 370 = .ok (.iload_n 3, 1) := by decide +kernel
theorem dX12_edition_371 : decode cX12_edition 371 = .ok (.iastore, 1) := by decide +kernel
theorem dX12_edition_372 : decode cX12_edition 372 = .ok (.aload_n 0, 1) := by decide +kernel
theorem dX12_edition_373 : decode cX12_edition 373 = .ok (.getfield 48, 3) := by decide +kernel
theorem dX12_edition_376 : decode cX12_edition 376 = .ok (.iload 9, 2) := by decide +kernel
theorem dX12_edition_378 : decode cX12_edition 378 = .ok (.iload 4, 2) := by decide +kernel
theorem dX12_edition_380 : decode cX12_edition 380 = .ok (.iastore, 1) := by decide +kernel
theorem dX12_edition_381 : decode cX12_edition 381 = .ok (.aload_n 0, 1) := by decide +kernel
theorem dX12_edition_382 : decode cX12_edition 382 = .ok (.getfield 51, 3) := by decide +kernel
theorem dX12_edition_385 : decode cX12_edition 385 = .ok (.iload 9, 2) := by decide +kernel
theorem dX12_edition_387 : decode cX12_edition 387 = .ok (.iload 5, 2) := by decide +kernel
theorem dX12_edition_389 : decode cX12_edition 389 = .ok (.ifCond .eq 12, 3) := by decide +kernel
theorem dX12_edition_392 : decode cX12_edition 392 = .ok (.aload_n 0, 1) := by decide +kernel
theorem dX12_edition_393 : decode cX12_edition 393 = .ok (.iload_n 1, 1) := by decide +kernel
theorem dX12_edition_394 : decode cX12_edition 394 = .ok (.iload_n 3, 1) := by decide +kernel
theorem dX12_edition_395 : decode cX12_edition 395 = .ok (.invokevirtual 222, 3) := by decide +kernel
theorem dX12_edition_398 : decode cX12_edition 398 = .ok (.goto 4, 3) := by decide +kernel
theorem dX12_edition_401 : decode cX12_edition 401 = .ok (.iconst 0, 1) := by decide +kernel
theorem dX12_edition_402 : decode cX12_edition 402 = .ok (.iastore, 1) := by decide +kernel
theorem dX12_edition_403 : decode cX12_edition 403 = .ok (.iinc 8 1, 3) := by decide +kernel
theorem dX12_edition_406 : decode cX12_edition 406 = .ok (.aload_n 0, 1) := by decide +kernel
theorem dX12_edition_407 : decode cX12_edition 407 = .ok (.getfield 42, 3) := by decide +kernel
theorem dX12_edition_410 : decode cX12_edition 410 = .ok (.iload 6, 2) := by decide +kernel
theorem dX12_edition_412 : decode cX12_edition 412 = .ok (.iconst 1, 1) := by decide +kernel
theorem dX12_edition_413 : decode cX12_edition 413 = .ok (.iadd, 1) := by decide +kernel
theorem dX12_edition_414 : decode cX12_edition 414 = .ok (.iload 8, 2) := by decide +kernel
theorem dX12_edition_416 : decode cX12_edition 416 = .ok (.iastore, 1) := by decide +kernel
theorem dX12_edition_417 : decode cX12_edition 417 = .ok (.aload_n 0, 1) := by decide +kernel
theorem dX12_edition_418 : decode cX12_edition 418 = .ok (.getfield 36, 3) := by decide +kernel
theorem dX12_edition_421 : decode cX12_edition 421 = .ok (.iload_n 1, 1) := by decide +kernel
theorem dX12_edition_422 : decode cX12_edition 422 = .ok (.iaload, 1) := by decide +kernel
theorem dX12_edition_423 : decode cX12_edition 423 = .ok (.ireturn, 1) := by decide +kernel
def L_X12_edition_211 (d : Nat) (v0 : Option Nm) (v1 : Int32) (v2 : Int32) (v3 : Int32) (v4 : Int32) (v5 : Int32) (v6 : Int32) (v7 : Int32) (v8 : Int32) (v9 : Int32) (h : MH) (u : Nat) (Q : Int32 → MH → Prop) : Prop := T u_X12_edition (d + 2) 211 [some (jR v0), some (jI v1), some (jI v2), some (jI v3), some (jI v4), some (jI v5), some (jI v6), some (jI v7), some (jI v8), some (jI v9), none, none] [] h u (qI Q)
def F_X12_edition_195 (d : Nat) (v0 : Option Nm) (v1 : Int32) (v2 : Int32) (v3 : Int32) (v4 : Int32) (v5 : Int32) (v6 : Int32) (v7 : Int32) (h : MH) (u : Nat) (Q : Int32 → MH → Prop) : Prop :=
  gR h v0 11 13 fun x1 =>
  aI .int h x1 v1 fun x2 =>
  sV .int h x1 v1 (jI (x2 + 1)) fun h =>
  L_X12_edition_211 d v0 v1 v2 v3 v4 v5 v6 v7 0 0 h u Q
set_option maxRecDepth 20000 in
theorem E_X12_edition_195 {d : Nat} {v0 : Option Nm} {v1 : Int32} {v2 : Int32} {v3 : Int32} {v4 : Int32} {v5 : Int32} {v6 : Int32} {v7 : Int32} {h : MH} {u : Nat} {Q : Int32 → MH → Prop} (H : F_X12_edition_195 d v0 v1 v2 v3 v4 v5 v6 v7 h u Q) : T u_X12_edition (d + 2) 195 [some (jR v0), some (jI v1), some (jI v2), some (jI v3), some (jI v4), some (jI v5), some (jI v6), some (jI v7), none, none, none, none] [] h u (qI Q) := by
  unfold F_X12_edition_195 at H
  refine T_aload_n (pc := 195) dX12_edition_195 rfl rfl ?_
  refine T_gR (pc := 196) fa_X12_36 dX12_edition_196 (gR_mono (fun x1 H => ?_) H)
  refine T_iload_n (pc := 199) dX12_edition_199 rfl rfl ?_
  refine T_dup2 (pc := 200) rfl rfl dX12_edition_200 ?_
  refine T_aI (pc := 201) dX12_edition_201 (aI_mono (fun x2 H => ?_) H)
  refine T_iconst (pc := 202) (v := 1) dX12_edition_202 (by decide) ?_
  refine T_iadd (pc := 203) dX12_edition_203 ?_
  refine T_sI (pc := 204) dX12_edition_204 (sV_mono (fun h H => ?_) H)
  refine T_iconst (pc := 205) (v := 0) dX12_edition_205 (by decide) ?_
  refine T_istore (pc := 206) (ls2 := [some (jR v0), some (jI v1), some (jI v2), some (jI v3), some (jI v4), some (jI v5), some (jI v6), some (jI v7), some (jI 0), none, none, none]) dX12_edition_206 (Nat.le_of_ble_eq_true rfl) rfl ?_
  refine T_iconst (pc := 208) (v := 0) dX12_edition_208 (by decide) ?_
  refine T_istore (pc := 209) (ls2 := [some (jR v0), some (jI v1), some (jI v2), some (jI v3), some (jI v4), some (jI v5), some (jI v6), some (jI v7), some (jI 0), some (jI 0), none, none]) dX12_edition_209 (Nat.le_of_ble_eq_true rfl) rfl ?_
  exact T.forget H ⟨rfl, rfl, rfl, rfl, rfl, rfl, rfl, rfl, rfl, rfl, trivial⟩
def F_X12_edition_174 (d : Nat) (v0 : Option Nm) (v1 : Int32) (v2 : Int32) (v3 : Int32) (v4 : Int32) (v5 : Int32) (v6 : Int32) (v7 : Int32) (s0 : Int32) (s1 : Int32) (h : MH) (u : Nat) (Q : Int32 → MH → Prop) : Prop :=
  if s0 = s1 then
    Q (-4) h
  else
    if v5 = 0 then
      F_X12_edition_195 d v0 v1 v2 v3 v4 v5 v6 v7 h u Q
    else
      gI h v0 11 24 fun x1 =>
      if x1 = 200 then
        Q (-4) h
      else
        F_X12_edition_195 d v0 v1 v2 v3 v4 v5 v6 v7 h u Q
set_option maxRecDepth 20000 in
theorem E_X12_edition_174 {d : Nat} {v0 : Option Nm} {v1 : Int32} {v2 : Int32} {v3 : Int32} {v4 : Int32} {v5 : Int32} {v6 : Int32} {v7 : Int32} {s0 : Int32} {s1 : Int32} {h : MH} {u : Nat} {Q : Int32 → MH → Prop} (H : F_X12_edition_174 d v0 v1 v2 v3 v4 v5 v6 v7 s0 s1 h u Q) : T u_X12_edition (d + 2) 174 [some (jR v0), some (jI v1), some (jI v2), some (jI v3), some (jI v4), some (jI v5), some (jI v6), some (jI v7), none, none, none, none] [jI s1, jI s0] h u (qI Q) := by
  unfold F_X12_edition_174 at H
  refine T_icmp_eq (pc := 174) (tgt := 192) dX12_edition_174 (by decide) (fun hc => ?_) (fun hc => ?_)
  · rw [if_pos hc] at H
    refine T_bipush (pc := 192) (v := (-4)) dX12_edition_192 (by decide) ?_
    exact T_ireturn (pc := 194) rfl rfl dX12_edition_194 H
  · rw [if_neg hc] at H
    refine T_iload (pc := 177) dX12_edition_177 rfl ?_
    refine T_if_eq (pc := 179) (tgt := 195) dX12_edition_179 (by decide) (fun hc => ?_) (fun hc => ?_)
    · rw [if_pos hc] at H
      exact T.forget (E_X12_edition_195 H) ⟨rfl, rfl, rfl, rfl, rfl, rfl, rfl, rfl, trivial⟩
    · rw [if_neg hc] at H
      refine T_aload_n (pc := 182) dX12_edition_182 rfl rfl ?_
      refine T_gI (pc := 183) fa_X12_215 dX12_edition_183 (gI_mono (fun x1 H => ?_) H)
      refine T_sipush (pc := 186) (v := 200) dX12_edition_186 (by decide) ?_
      refine T_icmp_ne (pc := 189) (tgt := 195) dX12_edition_189 (by decide) (fun hc => ?_) (fun hc => ?_)
      · rw [if_neg hc] at H
        exact T.forget (E_X12_edition_195 H) ⟨rfl, rfl, rfl, rfl, rfl, rfl, rfl, rfl, trivial⟩
      · rw [if_pos hc] at H
        refine T_bipush (pc := 192) (v := (-4)) dX12_edition_192 (by decide) ?_
        exact T_ireturn (pc := 194) rfl rfl dX12_edition_194 H
def F_X12_edition_141 (d : Nat) (v0 : Option Nm) (v1 : Int32) (v2 : Int32) (v3 : Int32) (v4 : Int32) (v5 : Int32) (v6 : Int32) (v7 : Int32) (h : MH) (u : Nat) (Q : Int32 → MH → Prop) : Prop :=
  gR h v0 11 13 fun x1 =>
  aI .int h x1 v1 fun x2 =>
  if x2 = 3 then
    Q (-4) h
  else
    if v2 = 0 then
      gR h v0 11 15 fun x3 =>
      aI .int h x3 v6 fun x4 =>
      if v5 = 0 then
        F_X12_edition_174 d v0 v1 v2 v3 v4 v5 v6 v7 x4 6 h u Q
      else
        F_X12_edition_174 d v0 v1 v2 v3 v4 v5 v6 v7 x4 8 h u Q
    else
      F_X12_edition_195 d v0 v1 v2 v3 v4 v5 v6 v7 h u Q
set_option maxRecDepth 20000 in
theorem E_X12_edition_141 {d : Nat} {v0 : Option Nm} {v1 : Int32} {v2 : Int32} {v3 : Int32} {v4 : Int32} {v5 : Int32} {v6 : Int32} {v7 : Int32} {h : MH} {u : Nat} {Q : Int32 → MH → Prop} (H : F_X12_edition_141 d v0 v1 v2 v3 v4 v5 v6 v7 h u Q) : T u_X12_edition (d + 2) 141 [some (jR v0), some (jI v1), some (jI v2), some (jI v3), some (jI v4), some (jI v5), some (jI v6), some (jI v7), none, none, none, none] [] h u (qI Q) := by
  unfold F_X12_edition_141 at H
  refine T_aload_n (pc := 141) dX12_edition_141 rfl rfl ?_
  refine T_gR (pc := 142) fa_X12_36 dX12_edition_142 (gR_mono (fun x1 H => ?_) H)
  refine T_iload_n (pc := 145) dX12_edition_145 rfl rfl ?_
  refine T_aI (pc := 146) dX12_edition_146 (aI_mono (fun x2 H => ?_) H)
  refine T_iconst (pc := 147) (v := 3) dX12_edition_147 (by decide) ?_
  refine T_icmp_eq (pc := 148) (tgt := 192) dX12_edition_148 (by decide) (fun hc => ?_) (fun hc => ?_)
  · rw [if_pos hc] at H
    refine T_bipush (pc := 192) (v := (-4)) dX12_edition_192 (by decide) ?_
    exact T_ireturn (pc := 194) rfl rfl dX12_edition_194 H
  · rw [if_neg hc] at H
    refine T_iload_n (pc := 151) dX12_edition_151 rfl rfl ?_
    refine T_if_ne (pc := 152) (tgt := 195) dX12_edition_152 (by decide) (fun hc => ?_) (fun hc => ?_)
    · rw [if_neg hc] at H
      exact T.forget (E_X12_edition_195 H) ⟨rfl, rfl, rfl, rfl, rfl, rfl, rfl, rfl, trivial⟩
    · rw [if_pos hc] at H
      refine T_aload_n (pc := 155) dX12_edition_155 rfl rfl ?_
      refine T_gR (pc := 156) fa_X12_42 dX12_edition_156 (gR_mono (fun x3 H => ?_) H)
      refine T_iload (pc := 159) dX12_edition_159 rfl ?_
      refine T_aI (pc := 161) dX12_edition_161 (aI_mono (fun x4 H => ?_) H)
      refine T_iload (pc := 162) dX12_edition_162 rfl ?_
      refine T_if_eq (pc := 164) (tgt := 172) dX12_edition_164 (by decide) (fun hc => ?_) (fun hc => ?_)
      · rw [if_pos hc] at H
        refine T_bipush (pc := 172) (v := 6) dX12_edition_172 (by decide) ?_
        exact T.forget (E_X12_edition_174 H) ⟨rfl, rfl, rfl, rfl, rfl, rfl, rfl, rfl, trivial⟩
      · rw [if_neg hc] at H
        refine T_bipush (pc := 167) (v := 8) dX12_edition_167 (by decide) ?_
        refine T_goto (pc := 169) (tgt := 174) dX12_edition_169 (by decide) ?_
        exact T.forget (E_X12_edition_174 H) ⟨rfl, rfl, rfl, rfl, rfl, rfl, rfl, rfl, trivial⟩
def F_X12_edition_133 (d : Nat) (v0 : Option Nm) (v1 : Int32) (v2 : Int32) (v3 : Int32) (v4 : Int32) (v5 : Int32) (v6 : Int32) (v7 : Int32) (h : MH) (u : Nat) (Q : Int32 → MH → Prop) : Prop :=
  if 0 ≤ v7 then
    F_X12_edition_141 d v0 v1 v2 v3 v4 v5 v6 v7 h u Q
  else
    Q (-3) h
set_option maxRecDepth 20000 in
theorem E_X12_edition_133 {d : Nat} {v0 : Option Nm} {v1 : Int32} {v2 : Int32} {v3 : Int32} {v4 : Int32} {v5 : Int32} {v6 : Int32} {v7 : Int32} {h : MH} {u : Nat} {Q : Int32 → MH → Prop} (H : F_X12_edition_133 d v0 v1 v2 v3 v4 v5 v6 v7 h u Q) : T u_X12_edition (d + 2) 133 [some (jR v0), some (jI v1), some (jI v2), some (jI v3), some (jI v4), some (jI v5), some (jI v6), some (jI v7), none, none, none, none] [] h u (qI Q) := by
  unfold F_X12_edition_133 at H
  refine T_iload (pc := 133) dX12_edition_133 rfl ?_
  refine T_if_ge (pc := 135) (tgt := 141) dX12_edition_135 (by decide) (fun hc => ?_) (fun hc => ?_)
  · rw [if_pos hc] at H
    exact T.forget (E_X12_edition_141 H) ⟨rfl, rfl, rfl, rfl, rfl, rfl, rfl, rfl, trivial⟩
  · rw [if_neg hc] at H
    refine T_bipush (pc := 138) (v := (-3)) dX12_edition_138 (by decide) ?_
    exact T_ireturn (pc := 140) rfl rfl dX12_edition_140 H
def F_X12_edition_123 (d : Nat) (v0 : Option Nm) (v1 : Int32) (v2 : Int32) (v3 : Int32) (v4 : Int32) (v5 : Int32) (v6 : Int32) (v7 : Int32) (h : MH) (u : Nat) (Q : Int32 → MH → Prop) : Prop :=
  if v2 = 1 then
    F_X12_edition_133 d v0 v1 v2 v3 v4 v5 v6 v7 h u Q
  else
    if v2 = 2 then
      F_X12_edition_133 d v0 v1 v2 v3 v4 v5 v6 v7 h u Q
    else
      F_X12_edition_141 d v0 v1 v2 v3 v4 v5 v6 v7 h u Q
set_option maxRecDepth 20000 in
theorem E_X12_edition_123 {d : Nat} {v0 : Option Nm} {v1 : Int32} {v2 : Int32} {v3 : Int32} {v4 : Int32} {v5 : Int32} {v6 : Int32} {v7 : Int32} {h : MH} {u : Nat} {Q : Int32 → MH → Prop} (H : F_X12_edition_123 d v0 v1 v2 v3 v4 v5 v6 v7 h u Q) : T u_X12_edition (d + 2) 123 [some (jR v0), some (jI v1), some (jI v2), some (jI v3), some (jI v4), some (jI v5), some (jI v6), some (jI v7), none, none, none, none] [] h u (qI Q) := by
  unfold F_X12_edition_123 at H
  refine T_iload_n (pc := 123) dX12_edition_123 rfl rfl ?_
  refine T_iconst (pc := 124) (v := 1) dX12_edition_124 (by decide) ?_
  refine T_icmp_eq (pc := 125) (tgt := 133) dX12_edition_125 (by decide) (fun hc => ?_) (fun hc => ?_)
  · rw [if_pos hc] at H
    exact T.forget (E_X12_edition_133 H) ⟨rfl, rfl, rfl, rfl, rfl, rfl, rfl, rfl, trivial⟩
  · rw [if_neg hc] at H
    refine T_iload_n (pc := 128) dX12_edition_128 rfl rfl ?_
    refine T_iconst (pc := 129) (v := 2) dX12_edition_129 (by decide) ?_
    refine T_icmp_ne (pc := 130) (tgt := 141) dX12_edition_130 (by decide) (fun hc => ?_) (fun hc => ?_)
    · rw [if_neg hc] at H
      exact T.forget (E_X12_edition_141 H) ⟨rfl, rfl, rfl, rfl, rfl, rfl, rfl, rfl, trivial⟩
    · rw [if_pos hc] at H
      exact T.forget (E_X12_edition_133 H) ⟨rfl, rfl, rfl, rfl, rfl, rfl, rfl, rfl, trivial⟩
def F_X12_edition_114 (d : Nat) (v0 : Option Nm) (v1 : Int32) (v2 : Int32) (v3 : Int32) (v4 : Int32) (v5 : Int32) (v6 : Int32) (v7 : Int32) (h : MH) (u : Nat) (Q : Int32 → MH → Prop) : Prop :=
  if v2 = 0 then
    if 0 ≤ v7 then
      Q (-3) h
    else
      F_X12_edition_123 d v0 v1 v2 v3 v4 v5 v6 v7 h u Q
  else
    F_X12_edition_123 d v0 v1 v2 v3 v4 v5 v6 v7 h u Q
set_option maxRecDepth 20000 in
theorem E_X12_edition_114 {d : Nat} {v0 : Option Nm} {v1 : Int32} {v2 : Int32} {v3 : Int32} {v4 : Int32} {v5 : Int32} {v6 : Int32} {v7 : Int32} {h : MH} {u : Nat} {Q : Int32 → MH → Prop} (H : F_X12_edition_114 d v0 v1 v2 v3 v4 v5 v6 v7 h u Q) : T u_X12_edition (d + 2) 114 [some (jR v0), some (jI v1), some (jI v2), some (jI v3), some (jI v4), some (jI v5), some (jI v6), some (jI v7), none, none, none, none] [] h u (qI Q) := by
  unfold F_X12_edition_114 at H
  refine T_iload_n (pc := 114) dX12_edition_114 rfl rfl ?_
  refine T_if_ne (pc := 115) (tgt := 123) dX12_edition_115 (by decide) (fun hc => ?_) (fun hc => ?_)
  · rw [if_neg hc] at H
    exact T.forget (E_X12_edition_123 H) ⟨rfl, rfl, rfl, rfl, rfl, rfl, rfl, rfl, trivial⟩
  · rw [if_pos hc] at H
    refine T_iload (pc := 118) dX12_edition_118 rfl ?_
    refine T_if_ge (pc := 120) (tgt := 138) dX12_edition_120 (by decide) (fun hc => ?_) (fun hc => ?_)
    · rw [if_pos hc] at H
      refine T_bipush (pc := 138) (v := (-3)) dX12_edition_138 (by decide) ?_
      exact T_ireturn (pc := 140) rfl rfl dX12_edition_140 H
    · rw [if_neg hc] at H
      exact T.forget (E_X12_edition_123 H) ⟨rfl, rfl, rfl, rfl, rfl, rfl, rfl, rfl, trivial⟩
def F_X12_edition_93 (d : Nat) (v0 : Option Nm) (v1 : Int32) (v2 : Int32) (v3 : Int32) (v4 : Int32) (v5 : Int32) (v6 : Int32) (s0 : Int32) (h : MH) (u : Nat) (Q : Int32 → MH → Prop) : Prop :=
  gR h v0 11 12 fun x1 =>
  aI .boolean h x1 v1 fun x2 =>
  if x2 = 0 then
    Q (-3) h
  else
    if v5 = 0 then
      F_X12_edition_114 d v0 v1 v2 v3 v4 v5 v6 s0 h u Q
    else
      if v2 = 2 then
        Q (-3) h
      else
        F_X12_edition_114 d v0 v1 v2 v3 v4 v5 v6 s0 h u Q
set_option maxRecDepth 20000 in
theorem E_X12_edition_93 {d : Nat} {v0 : Option Nm} {v1 : Int32} {v2 : Int32} {v3 : Int32} {v4 : Int32} {v5 : Int32} {v6 : Int32} {s0 : Int32} {h : MH} {u : Nat} {Q : Int32 → MH → Prop} (H : F_X12_edition_93 d v0 v1 v2 v3 v4 v5 v6 s0 h u Q) : T u_X12_edition (d + 2) 93 [some (jR v0), some (jI v1), some (jI v2), some (jI v3), some (jI v4), some (jI v5), some (jI v6), none, none, none, none, none] [jI s0] h u (qI Q) := by
  unfold F_X12_edition_93 at H
  refine T_istore (pc := 93) (ls2 := [some (jR v0), some (jI v1), some (jI v2), some (jI v3), some (jI v4), some (jI v5), some (jI v6), some (jI s0), none, none, none, none]) dX12_edition_93 (Nat.le_of_ble_eq_true rfl) rfl ?_
  refine T_aload_n (pc := 95) dX12_edition_95 rfl rfl ?_
  refine T_gR (pc := 96) fa_X12_33 dX12_edition_96 (gR_mono (fun x1 H => ?_) H)
  refine T_iload_n (pc := 99) dX12_edition_99 rfl rfl ?_
  refine T_aZ (pc := 100) dX12_edition_100 (aI_mono (fun x2 H => ?_) H)
  refine T_if_eq (pc := 101) (tgt := 138) dX12_edition_101 (by decide) (fun hc => ?_) (fun hc => ?_)
  · rw [if_pos hc] at H
    refine T_bipush (pc := 138) (v := (-3)) dX12_edition_138 (by decide) ?_
    exact T_ireturn (pc := 140) rfl rfl dX12_edition_140 H
  · rw [if_neg hc] at H
    refine T_iload (pc := 104) dX12_edition_104 rfl ?_
    refine T_if_eq (pc := 106) (tgt := 114) dX12_edition_106 (by decide) (fun hc => ?_) (fun hc => ?_)
    · rw [if_pos hc] at H
      exact T.forget (E_X12_edition_114 H) ⟨rfl, rfl, rfl, rfl, rfl, rfl, rfl, rfl, trivial⟩
    · rw [if_neg hc] at H
      refine T_iload_n (pc := 109) dX12_edition_109 rfl rfl ?_
      refine T_iconst (pc := 110) (v := 2) dX12_edition_110 (by decide) ?_
      refine T_icmp_eq (pc := 111) (tgt := 138) dX12_edition_111 (by decide) (fun hc => ?_) (fun hc => ?_)
      · rw [if_pos hc] at H
        refine T_bipush (pc := 138) (v := (-3)) dX12_edition_138 (by decide) ?_
        exact T_ireturn (pc := 140) rfl rfl dX12_edition_140 H
      · rw [if_neg hc] at H
        exact T.forget (E_X12_edition_114 H) ⟨rfl, rfl, rfl, rfl, rfl, rfl, rfl, rfl, trivial⟩
def F_X12_edition_70 (d : Nat) (v0 : Option Nm) (v1 : Int32) (v2 : Int32) (v3 : Int32) (v4 : Int32) (v5 : Int32) (h : MH) (u : Nat) (Q : Int32 → MH → Prop) : Prop :=
  rc h v0 11 ∧ F_X12_newestOf (d + 1) v0 v1 h 0 fun x1 h =>
  if v2 = 3 then
    F_X12_edition_93 d v0 v1 v2 v3 v4 v5 x1 (-1) h u Q
  else
    rc h v0 11 ∧ F_X12_placeOf (d + 1) v0 x1 v3 h 0 fun x2 h =>
    F_X12_edition_93 d v0 v1 v2 v3 v4 v5 x1 x2 h u Q
set_option maxRecDepth 20000 in
theorem E_X12_edition_70 {d : Nat} {v0 : Option Nm} {v1 : Int32} {v2 : Int32} {v3 : Int32} {v4 : Int32} {v5 : Int32} {h : MH} {u : Nat} {Q : Int32 → MH → Prop} (H : F_X12_edition_70 d v0 v1 v2 v3 v4 v5 h u Q) : T u_X12_edition (d + 2) 70 [some (jR v0), some (jI v1), some (jI v2), some (jI v3), some (jI v4), some (jI v5), none, none, none, none, none, none] [] h u (qI Q) := by
  unfold F_X12_edition_70 at H
  refine T_aload_n (pc := 70) dX12_edition_70 rfl rfl ?_
  refine T_iload_n (pc := 71) dX12_edition_71 rfl rfl ?_
  obtain ⟨H0, H⟩ := H
  refine T_iV (pc := 72) (ci := 11) (av := [jI v1]) (rest := []) (o := v0) dX12_edition_72 mf_X12_newestOf c_5_210 c_5_212 pr_X12_newestOf rfl rfl (Nat.le_of_ble_eq_true rfl) rfl H0 (iI_k (iI_m0 (fun x1 h H => ?_) (J_X12_newestOf (d := (d + 1)) H)))
  refine T_istore (pc := 75) (ls2 := [some (jR v0), some (jI v1), some (jI v2), some (jI v3), some (jI v4), some (jI v5), some (jI x1), none, none, none, none, none]) dX12_edition_75 (Nat.le_of_ble_eq_true rfl) rfl ?_
  refine T_iload_n (pc := 77) dX12_edition_77 rfl rfl ?_
  refine T_iconst (pc := 78) (v := 3) dX12_edition_78 (by decide) ?_
  refine T_icmp_ne (pc := 79) (tgt := 86) dX12_edition_79 (by decide) (fun hc => ?_) (fun hc => ?_)
  · rw [if_neg hc] at H
    refine T_aload_n (pc := 86) dX12_edition_86 rfl rfl ?_
    refine T_iload (pc := 87) dX12_edition_87 rfl ?_
    refine T_iload_n (pc := 89) dX12_edition_89 rfl rfl ?_
    obtain ⟨H0, H⟩ := H
    refine T_iV (pc := 90) (ci := 11) (av := [jI x1, jI v3]) (rest := []) (o := v0) dX12_edition_90 mf_X12_placeOf c_5_202 c_5_204 pr_X12_placeOf rfl rfl (Nat.le_of_ble_eq_true rfl) rfl H0 (iI_k (iI_m0 (fun x2 h H => ?_) (J_X12_placeOf (d := (d + 1)) H)))
    exact T.forget (E_X12_edition_93 H) ⟨rfl, rfl, rfl, rfl, rfl, rfl, rfl, trivial⟩
  · rw [if_pos hc] at H
    refine T_iconst (pc := 82) (v := (-1)) dX12_edition_82 (by decide) ?_
    refine T_goto (pc := 83) (tgt := 93) dX12_edition_83 (by decide) ?_
    exact T.forget (E_X12_edition_93 H) ⟨rfl, rfl, rfl, rfl, rfl, rfl, rfl, trivial⟩
def F_X12_edition_56 (d : Nat) (v0 : Option Nm) (v1 : Int32) (v2 : Int32) (v3 : Int32) (v4 : Int32) (v5 : Int32) (h : MH) (u : Nat) (Q : Int32 → MH → Prop) : Prop :=
  F_X12_in (d + 1) v4 0 9 h 0 fun x1 h =>
  if x1 = 0 then
    Q (-2) h
  else
    F_X12_edition_70 d v0 v1 v2 v3 v4 v5 h u Q
set_option maxRecDepth 20000 in
theorem E_X12_edition_56 {d : Nat} {v0 : Option Nm} {v1 : Int32} {v2 : Int32} {v3 : Int32} {v4 : Int32} {v5 : Int32} {h : MH} {u : Nat} {Q : Int32 → MH → Prop} (H : F_X12_edition_56 d v0 v1 v2 v3 v4 v5 h u Q) : T u_X12_edition (d + 2) 56 [some (jR v0), some (jI v1), some (jI v2), some (jI v3), some (jI v4), some (jI v5), none, none, none, none, none, none] [] h u (qI Q) := by
  unfold F_X12_edition_56 at H
  refine T_iload (pc := 56) dX12_edition_56 rfl ?_
  refine T_iconst (pc := 58) (v := 0) dX12_edition_58 (by decide) ?_
  refine T_bipush (pc := 59) (v := 9) dX12_edition_59 (by decide) ?_
  refine T_invS (pc := 61) (av := [jI v4, jI 0, jI 9]) (rest := []) dX12_edition_61 mf_X12_in c_5_86 c_5_87 rfl (Nat.le_of_ble_eq_true rfl) rfl (iI_k (iI_m0 (fun x1 h H => ?_) (J_X12_in (d := (d + 1)) H)))
  refine T_if_ne (pc := 64) (tgt := 70) dX12_edition_64 (by decide) (fun hc => ?_) (fun hc => ?_)
  · rw [if_neg hc] at H
    exact T.forget (E_X12_edition_70 H) ⟨rfl, rfl, rfl, rfl, rfl, rfl, trivial⟩
  · rw [if_pos hc] at H
    refine T_bipush (pc := 67) (v := (-2)) dX12_edition_67 (by decide) ?_
    exact T_ireturn (pc := 69) rfl rfl dX12_edition_69 H
def F_X12_edition_42 (d : Nat) (v0 : Option Nm) (v1 : Int32) (v2 : Int32) (v3 : Int32) (v4 : Int32) (v5 : Int32) (h : MH) (u : Nat) (Q : Int32 → MH → Prop) : Prop :=
  if v5 = 0 then
    if v2 = 0 then
      F_X12_edition_56 d v0 v1 v2 v3 v4 v5 h u Q
    else
      if v2 = 2 then
        F_X12_edition_56 d v0 v1 v2 v3 v4 v5 h u Q
      else
        F_X12_edition_70 d v0 v1 v2 v3 v4 v5 h u Q
  else
    F_X12_edition_70 d v0 v1 v2 v3 v4 v5 h u Q
set_option maxRecDepth 20000 in
theorem E_X12_edition_42 {d : Nat} {v0 : Option Nm} {v1 : Int32} {v2 : Int32} {v3 : Int32} {v4 : Int32} {v5 : Int32} {h : MH} {u : Nat} {Q : Int32 → MH → Prop} (H : F_X12_edition_42 d v0 v1 v2 v3 v4 v5 h u Q) : T u_X12_edition (d + 2) 42 [some (jR v0), some (jI v1), some (jI v2), some (jI v3), some (jI v4), some (jI v5), none, none, none, none, none, none] [] h u (qI Q) := by
  unfold F_X12_edition_42 at H
  refine T_iload (pc := 42) dX12_edition_42 rfl ?_
  refine T_if_ne (pc := 44) (tgt := 70) dX12_edition_44 (by decide) (fun hc => ?_) (fun hc => ?_)
  · rw [if_neg hc] at H
    exact T.forget (E_X12_edition_70 H) ⟨rfl, rfl, rfl, rfl, rfl, rfl, trivial⟩
  · rw [if_pos hc] at H
    refine T_iload_n (pc := 47) dX12_edition_47 rfl rfl ?_
    refine T_if_eq (pc := 48) (tgt := 56) dX12_edition_48 (by decide) (fun hc => ?_) (fun hc => ?_)
    · rw [if_pos hc] at H
      exact T.forget (E_X12_edition_56 H) ⟨rfl, rfl, rfl, rfl, rfl, rfl, trivial⟩
    · rw [if_neg hc] at H
      refine T_iload_n (pc := 51) dX12_edition_51 rfl rfl ?_
      refine T_iconst (pc := 52) (v := 2) dX12_edition_52 (by decide) ?_
      refine T_icmp_ne (pc := 53) (tgt := 70) dX12_edition_53 (by decide) (fun hc => ?_) (fun hc => ?_)
      · rw [if_neg hc] at H
        exact T.forget (E_X12_edition_70 H) ⟨rfl, rfl, rfl, rfl, rfl, rfl, trivial⟩
      · rw [if_pos hc] at H
        exact T.forget (E_X12_edition_56 H) ⟨rfl, rfl, rfl, rfl, rfl, rfl, trivial⟩
def F_X12_edition (d : Nat) (v0 : Option Nm) (v1 : Int32) (v2 : Int32) (v3 : Int32) (v4 : Int32) (h : MH) (u : Nat) (Q : Int32 → MH → Prop) : Prop :=
  rc h v0 11 ∧ F_X12_isKind d v0 v1 h 0 fun x1 h =>
  if x1 = 0 then
    Q (-1) h
  else
    gR h v0 11 10 fun x2 =>
    aI .boolean h x2 v1 fun x3 =>
    F_X12_in (d + 1) v2 0 3 h 0 fun x4 h =>
    if x4 = 0 then
      Q (-2) h
    else
      if v2 = 3 then
        F_X12_edition_42 d v0 v1 v2 v3 v4 x3 h u Q
      else
        F_X12_in (d + 1) v3 1 99 h 0 fun x5 h =>
        if x5 = 0 then
          Q (-2) h
        else
          F_X12_edition_42 d v0 v1 v2 v3 v4 x3 h u Q
set_option maxRecDepth 20000 in
theorem E_X12_edition {d : Nat} {v0 : Option Nm} {v1 : Int32} {v2 : Int32} {v3 : Int32} {v4 : Int32} {h : MH} {u : Nat} {Q : Int32 → MH → Prop} (H : F_X12_edition d v0 v1 v2 v3 v4 h u Q) : T u_X12_edition (d + 2) 0 [some (jR v0), some (jI v1), some (jI v2), some (jI v3), some (jI v4), none, none, none, none, none, none, none] [] h u (qI Q) := by
  unfold F_X12_edition at H
  refine T_aload_n (pc := 0) dX12_edition_0 rfl rfl ?_
  refine T_iload_n (pc := 1) dX12_edition_1 rfl rfl ?_
  obtain ⟨H0, H⟩ := H
  refine T_iV (pc := 2) (ci := 11) (av := [jI v1]) (rest := []) (o := v0) dX12_edition_2 mf_X12_isKind c_5_198 c_5_200 pr_X12_isKind rfl rfl (Nat.le_of_ble_eq_true rfl) rfl H0 (iI_k (iI_m0 (fun x1 h H => ?_) (J_X12_isKind (d := d) H)))
  refine T_if_ne (pc := 5) (tgt := 10) dX12_edition_5 (by decide) (fun hc => ?_) (fun hc => ?_)
  · rw [if_neg hc] at H
    refine T_aload_n (pc := 10) dX12_edition_10 rfl rfl ?_
    refine T_gR (pc := 11) fa_X12_27 dX12_edition_11 (gR_mono (fun x2 H => ?_) H)
    refine T_iload_n (pc := 14) dX12_edition_14 rfl rfl ?_
    refine T_aZ (pc := 15) dX12_edition_15 (aI_mono (fun x3 H => ?_) H)
    refine T_istore (pc := 16) (ls2 := [some (jR v0), some (jI v1), some (jI v2), some (jI v3), some (jI v4), some (jI x3), none, none, none, none, none, none]) dX12_edition_16 (Nat.le_of_ble_eq_true rfl) rfl ?_
    refine T_iload_n (pc := 18) dX12_edition_18 rfl rfl ?_
    refine T_iconst (pc := 19) (v := 0) dX12_edition_19 (by decide) ?_
    refine T_iconst (pc := 20) (v := 3) dX12_edition_20 (by decide) ?_
    refine T_invS (pc := 21) (av := [jI v2, jI 0, jI 3]) (rest := []) dX12_edition_21 mf_X12_in c_5_86 c_5_87 rfl (Nat.le_of_ble_eq_true rfl) rfl (iI_k (iI_m0 (fun x4 h H => ?_) (J_X12_in (d := (d + 1)) H)))
    refine T_if_eq (pc := 24) (tgt := 67) dX12_edition_24 (by decide) (fun hc => ?_) (fun hc => ?_)
    · rw [if_pos hc] at H
      refine T_bipush (pc := 67) (v := (-2)) dX12_edition_67 (by decide) ?_
      exact T_ireturn (pc := 69) rfl rfl dX12_edition_69 H
    · rw [if_neg hc] at H
      refine T_iload_n (pc := 27) dX12_edition_27 rfl rfl ?_
      refine T_iconst (pc := 28) (v := 3) dX12_edition_28 (by decide) ?_
      refine T_icmp_eq (pc := 29) (tgt := 42) dX12_edition_29 (by decide) (fun hc => ?_) (fun hc => ?_)
      · rw [if_pos hc] at H
        exact T.forget (E_X12_edition_42 H) ⟨rfl, rfl, rfl, rfl, rfl, rfl, trivial⟩
      · rw [if_neg hc] at H
        refine T_iload_n (pc := 32) dX12_edition_32 rfl rfl ?_
        refine T_iconst (pc := 33) (v := 1) dX12_edition_33 (by decide) ?_
        refine T_bipush (pc := 34) (v := 99) dX12_edition_34 (by decide) ?_
        refine T_invS (pc := 36) (av := [jI v3, jI 1, jI 99]) (rest := []) dX12_edition_36 mf_X12_in c_5_86 c_5_87 rfl (Nat.le_of_ble_eq_true rfl) rfl (iI_k (iI_m0 (fun x5 h H => ?_) (J_X12_in (d := (d + 1)) H)))
        refine T_if_eq (pc := 39) (tgt := 67) dX12_edition_39 (by decide) (fun hc => ?_) (fun hc => ?_)
        · rw [if_pos hc] at H
          refine T_bipush (pc := 67) (v := (-2)) dX12_edition_67 (by decide) ?_
          exact T_ireturn (pc := 69) rfl rfl dX12_edition_69 H
        · rw [if_neg hc] at H
          exact T.forget (E_X12_edition_42 H) ⟨rfl, rfl, rfl, rfl, rfl, rfl, trivial⟩
  · rw [if_pos hc] at H
    refine T_iconst (pc := 8) (v := (-1)) dX12_edition_8 (by decide) ?_
    exact T_ireturn (pc := 9) rfl rfl dX12_edition_9 H
def F_X12_edition_406 (d : Nat) (v0 : Option Nm) (v1 : Int32) (v6 : Int32) (v8 : Int32) (h : MH) (u : Nat) (Q : Int32 → MH → Prop) : Prop :=
  gR h v0 11 15 fun x1 =>
  sV .int h x1 (v6 + 1) (jI v8) fun h =>
  gR h v0 11 13 fun x2 =>
  aI .int h x2 v1 fun x3 =>
  Q x3 h
set_option maxRecDepth 20000 in
theorem E_X12_edition_406 {d : Nat} {v0 : Option Nm} {v1 : Int32} {v6 : Int32} {v8 : Int32} {h : MH} {u : Nat} {Q : Int32 → MH → Prop} (H : F_X12_edition_406 d v0 v1 v6 v8 h u Q) : T u_X12_edition (d + 2) 406 [some (jR v0), some (jI v1), none, none, none, none, some (jI v6), none, some (jI v8), none, none, none] [] h u (qI Q) := by
  unfold F_X12_edition_406 at H
  refine T_aload_n (pc := 406) dX12_edition_406 rfl rfl ?_
  refine T_gR (pc := 407) fa_X12_42 dX12_edition_407 (gR_mono (fun x1 H => ?_) H)
  refine T_iload (pc := 410) dX12_edition_410 rfl ?_
  refine T_iconst (pc := 412) (v := 1) dX12_edition_412 (by decide) ?_
  refine T_iadd (pc := 413) dX12_edition_413 ?_
  refine T_iload (pc := 414) dX12_edition_414 rfl ?_
  refine T_sI (pc := 416) dX12_edition_416 (sV_mono (fun h H => ?_) H)
  refine T_aload_n (pc := 417) dX12_edition_417 rfl rfl ?_
  refine T_gR (pc := 418) fa_X12_36 dX12_edition_418 (gR_mono (fun x2 H => ?_) H)
  refine T_iload_n (pc := 421) dX12_edition_421 rfl rfl ?_
  refine T_aI (pc := 422) dX12_edition_422 (aI_mono (fun x3 H => ?_) H)
  exact T_ireturn (pc := 423) rfl rfl dX12_edition_423 H
def F_X12_edition_402 (d : Nat) (v0 : Option Nm) (v1 : Int32) (v6 : Int32) (v8 : Int32) (s0 : Option Nm) (s1 : Int32) (s2 : Int32) (h : MH) (u : Nat) (Q : Int32 → MH → Prop) : Prop :=
  sV .int h s0 s1 (jI s2) fun h =>
  F_X12_edition_406 d v0 v1 v6 (v8 + 1) h u Q
set_option maxRecDepth 20000 in
theorem E_X12_edition_402 {d : Nat} {v0 : Option Nm} {v1 : Int32} {v6 : Int32} {v8 : Int32} {s0 : Option Nm} {s1 : Int32} {s2 : Int32} {h : MH} {u : Nat} {Q : Int32 → MH → Prop} (H : F_X12_edition_402 d v0 v1 v6 v8 s0 s1 s2 h u Q) : T u_X12_edition (d + 2) 402 [some (jR v0), some (jI v1), none, none, none, none, some (jI v6), none, some (jI v8), none, none, none] [jI s2, jI s1, jR s0] h u (qI Q) := by
  unfold F_X12_edition_402 at H
  refine T_sI (pc := 402) dX12_edition_402 (sV_mono (fun h H => ?_) H)
  refine T_iinc (pc := 403) (v := v8 + 1) (ls2 := [some (jR v0), some (jI v1), none, none, none, none, some (jI v6), none, some (jI (v8 + 1)), none, none, none]) dX12_edition_403 rfl rfl (Nat.le_of_ble_eq_true rfl) rfl ?_
  exact T.forget (E_X12_edition_406 H) ⟨rfl, rfl, rfl, rfl, trivial⟩
def F_X12_edition_324 (d : Nat) (v0 : Option Nm) (v1 : Int32) (v2 : Int32) (v3 : Int32) (v4 : Int32) (v5 : Int32) (v6 : Int32) (v7 : Int32) (v8 : Int32) (v9 : Int32) (v10 : Int32) (v11 : Int32) (s0 : Option Nm) (s1 : Int32) (s2 : Int32) (h : MH) (u : Nat) (Q : Int32 → MH → Prop) : Prop :=
  sV .int h s0 s1 (jI s2) fun h =>
  gR h v0 11 18 fun x1 =>
  gR h v0 11 18 fun x2 =>
  aI .int h x2 v10 fun x3 =>
  sV .int h x1 v11 (jI x3) fun h =>
  L_X12_edition_211 d v0 v1 v2 v3 v4 v5 v6 v7 (v8 + 1) (v9 + 1) h u Q
set_option maxRecDepth 20000 in
theorem E_X12_edition_324 {d : Nat} {v0 : Option Nm} {v1 : Int32} {v2 : Int32} {v3 : Int32} {v4 : Int32} {v5 : Int32} {v6 : Int32} {v7 : Int32} {v8 : Int32} {v9 : Int32} {v10 : Int32} {v11 : Int32} {s0 : Option Nm} {s1 : Int32} {s2 : Int32} {h : MH} {u : Nat} {Q : Int32 → MH → Prop} (H : F_X12_edition_324 d v0 v1 v2 v3 v4 v5 v6 v7 v8 v9 v10 v11 s0 s1 s2 h u Q) : T u_X12_edition (d + 2) 324 [some (jR v0), some (jI v1), some (jI v2), some (jI v3), some (jI v4), some (jI v5), some (jI v6), some (jI v7), some (jI v8), some (jI v9), some (jI v10), some (jI v11)] [jI s2, jI s1, jR s0] h u (qI Q) := by
  unfold F_X12_edition_324 at H
  refine T_sI (pc := 324) dX12_edition_324 (sV_mono (fun h H => ?_) H)
  refine T_aload_n (pc := 325) dX12_edition_325 rfl rfl ?_
  refine T_gR (pc := 326) fa_X12_51 dX12_edition_326 (gR_mono (fun x1 H => ?_) H)
  refine T_iload (pc := 329) dX12_edition_329 rfl ?_
  refine T_aload_n (pc := 331) dX12_edition_331 rfl rfl ?_
  refine T_gR (pc := 332) fa_X12_51 dX12_edition_332 (gR_mono (fun x2 H => ?_) H)
  refine T_iload (pc := 335) dX12_edition_335 rfl ?_
  refine T_aI (pc := 337) dX12_edition_337 (aI_mono (fun x3 H => ?_) H)
  refine T_sI (pc := 338) dX12_edition_338 (sV_mono (fun h H => ?_) H)
  refine T_iinc (pc := 339) (v := v8 + 1) (ls2 := [some (jR v0), some (jI v1), some (jI v2), some (jI v3), some (jI v4), some (jI v5), some (jI v6), some (jI v7), some (jI (v8 + 1)), some (jI v9), some (jI v10), some (jI v11)]) dX12_edition_339 rfl rfl (Nat.le_of_ble_eq_true rfl) rfl ?_
  refine T_iinc (pc := 342) (v := v9 + 1) (ls2 := [some (jR v0), some (jI v1), some (jI v2), some (jI v3), some (jI v4), some (jI v5), some (jI v6), some (jI v7), some (jI (v8 + 1)), some (jI (v9 + 1)), some (jI v10), some (jI v11)]) dX12_edition_342 rfl rfl (Nat.le_of_ble_eq_true rfl) rfl ?_
  refine T_goto (pc := 345) (tgt := 211) dX12_edition_345 (by decide) ?_
  exact T.forget H ⟨rfl, rfl, rfl, rfl, rfl, rfl, rfl, rfl, rfl, rfl, trivial⟩
def F_X12_edition_317 (d : Nat) (v0 : Option Nm) (v1 : Int32) (v2 : Int32) (v3 : Int32) (v4 : Int32) (v5 : Int32) (v6 : Int32) (v7 : Int32) (v8 : Int32) (v9 : Int32) (v10 : Int32) (v11 : Int32) (s0 : Option Nm) (s1 : Int32) (h : MH) (u : Nat) (Q : Int32 → MH → Prop) : Prop :=
  gR h v0 11 17 fun x1 =>
  aI .int h x1 v10 fun x2 =>
  F_X12_edition_324 d v0 v1 v2 v3 v4 v5 v6 v7 v8 v9 v10 v11 s0 s1 x2 h u Q
set_option maxRecDepth 20000 in
theorem E_X12_edition_317 {d : Nat} {v0 : Option Nm} {v1 : Int32} {v2 : Int32} {v3 : Int32} {v4 : Int32} {v5 : Int32} {v6 : Int32} {v7 : Int32} {v8 : Int32} {v9 : Int32} {v10 : Int32} {v11 : Int32} {s0 : Option Nm} {s1 : Int32} {h : MH} {u : Nat} {Q : Int32 → MH → Prop} (H : F_X12_edition_317 d v0 v1 v2 v3 v4 v5 v6 v7 v8 v9 v10 v11 s0 s1 h u Q) : T u_X12_edition (d + 2) 317 [some (jR v0), some (jI v1), some (jI v2), some (jI v3), some (jI v4), some (jI v5), some (jI v6), some (jI v7), some (jI v8), some (jI v9), some (jI v10), some (jI v11)] [jI s1, jR s0] h u (qI Q) := by
  unfold F_X12_edition_317 at H
  refine T_aload_n (pc := 317) dX12_edition_317 rfl rfl ?_
  refine T_gR (pc := 318) fa_X12_48 dX12_edition_318 (gR_mono (fun x1 H => ?_) H)
  refine T_iload (pc := 321) dX12_edition_321 rfl ?_
  refine T_aI (pc := 323) dX12_edition_323 (aI_mono (fun x2 H => ?_) H)
  exact T.forget (E_X12_edition_324 H) ⟨rfl, rfl, rfl, rfl, rfl, rfl, rfl, rfl, rfl, rfl, rfl, rfl, trivial⟩
def F_X12_edition_268 (d : Nat) (v0 : Option Nm) (v1 : Int32) (v2 : Int32) (v3 : Int32) (v4 : Int32) (v5 : Int32) (v6 : Int32) (v7 : Int32) (v8 : Int32) (v9 : Int32) (v10 : Int32) (h : MH) (u : Nat) (Q : Int32 → MH → Prop) : Prop :=
  gR h v0 11 16 fun x1 =>
  gR h v0 11 16 fun x2 =>
  aI .int h x2 v10 fun x3 =>
  sV .int h x1 ((8 * (v6 + 1)) + v8) (jI x3) fun h =>
  gR h v0 11 17 fun x4 =>
  if v2 = 2 then
    if v9 = v7 then
      F_X12_edition_324 d v0 v1 v2 v3 v4 v5 v6 v7 v8 v9 v10 ((8 * (v6 + 1)) + v8) x4 ((8 * (v6 + 1)) + v8) v4 h u Q
    else
      F_X12_edition_317 d v0 v1 v2 v3 v4 v5 v6 v7 v8 v9 v10 ((8 * (v6 + 1)) + v8) x4 ((8 * (v6 + 1)) + v8) h u Q
  else
    F_X12_edition_317 d v0 v1 v2 v3 v4 v5 v6 v7 v8 v9 v10 ((8 * (v6 + 1)) + v8) x4 ((8 * (v6 + 1)) + v8) h u Q
set_option maxRecDepth 20000 in
theorem E_X12_edition_268 {d : Nat} {v0 : Option Nm} {v1 : Int32} {v2 : Int32} {v3 : Int32} {v4 : Int32} {v5 : Int32} {v6 : Int32} {v7 : Int32} {v8 : Int32} {v9 : Int32} {v10 : Int32} {h : MH} {u : Nat} {Q : Int32 → MH → Prop} (H : F_X12_edition_268 d v0 v1 v2 v3 v4 v5 v6 v7 v8 v9 v10 h u Q) : T u_X12_edition (d + 2) 268 [some (jR v0), some (jI v1), some (jI v2), some (jI v3), some (jI v4), some (jI v5), some (jI v6), some (jI v7), some (jI v8), some (jI v9), some (jI v10), none] [] h u (qI Q) := by
  unfold F_X12_edition_268 at H
  refine T_bipush (pc := 268) (v := 8) dX12_edition_268 (by decide) ?_
  refine T_iload (pc := 270) dX12_edition_270 rfl ?_
  refine T_iconst (pc := 272) (v := 1) dX12_edition_272 (by decide) ?_
  refine T_iadd (pc := 273) dX12_edition_273 ?_
  refine T_imul (pc := 274) dX12_edition_274 ?_
  refine T_iload (pc := 275) dX12_edition_275 rfl ?_
  refine T_iadd (pc := 277) dX12_edition_277 ?_
  refine T_istore (pc := 278) (ls2 := [some (jR v0), some (jI v1), some (jI v2), some (jI v3), some (jI v4), some (jI v5), some (jI v6), some (jI v7), some (jI v8), some (jI v9), some (jI v10), some (jI ((8 * (v6 + 1)) + v8))]) dX12_edition_278 (Nat.le_of_ble_eq_true rfl) rfl ?_
  refine T_aload_n (pc := 280) dX12_edition_280 rfl rfl ?_
  refine T_gR (pc := 281) fa_X12_45 dX12_edition_281 (gR_mono (fun x1 H => ?_) H)
  refine T_iload (pc := 284) dX12_edition_284 rfl ?_
  refine T_aload_n (pc := 286) dX12_edition_286 rfl rfl ?_
  refine T_gR (pc := 287) fa_X12_45 dX12_edition_287 (gR_mono (fun x2 H => ?_) H)
  refine T_iload (pc := 290) dX12_edition_290 rfl ?_
  refine T_aI (pc := 292) dX12_edition_292 (aI_mono (fun x3 H => ?_) H)
  refine T_sI (pc := 293) dX12_edition_293 (sV_mono (fun h H => ?_) H)
  refine T_aload_n (pc := 294) dX12_edition_294 rfl rfl ?_
  refine T_gR (pc := 295) fa_X12_48 dX12_edition_295 (gR_mono (fun x4 H => ?_) H)
  refine T_iload (pc := 298) dX12_edition_298 rfl ?_
  refine T_iload_n (pc := 300) dX12_edition_300 rfl rfl ?_
  refine T_iconst (pc := 301) (v := 2) dX12_edition_301 (by decide) ?_
  refine T_icmp_ne (pc := 302) (tgt := 317) dX12_edition_302 (by decide) (fun hc => ?_) (fun hc => ?_)
  · rw [if_neg hc] at H
    exact T.forget (E_X12_edition_317 H) ⟨rfl, rfl, rfl, rfl, rfl, rfl, rfl, rfl, rfl, rfl, rfl, rfl, trivial⟩
  · rw [if_pos hc] at H
    refine T_iload (pc := 305) dX12_edition_305 rfl ?_
    refine T_iload (pc := 307) dX12_edition_307 rfl ?_
    refine T_icmp_ne (pc := 309) (tgt := 317) dX12_edition_309 (by decide) (fun hc => ?_) (fun hc => ?_)
    · rw [if_neg hc] at H
      exact T.forget (E_X12_edition_317 H) ⟨rfl, rfl, rfl, rfl, rfl, rfl, rfl, rfl, rfl, rfl, rfl, rfl, trivial⟩
    · rw [if_pos hc] at H
      refine T_iload (pc := 312) dX12_edition_312 rfl ?_
      refine T_goto (pc := 314) (tgt := 324) dX12_edition_314 (by decide) ?_
      exact T.forget (E_X12_edition_324 H) ⟨rfl, rfl, rfl, rfl, rfl, rfl, rfl, rfl, rfl, rfl, rfl, rfl, trivial⟩
def F_X12_edition_250 (d : Nat) (v0 : Option Nm) (v1 : Int32) (v2 : Int32) (v3 : Int32) (v4 : Int32) (v5 : Int32) (v6 : Int32) (v7 : Int32) (v8 : Int32) (v9 : Int32) (s0 : Int32) (s1 : Int32) (h : MH) (u : Nat) (Q : Int32 → MH → Prop) : Prop :=
  if v2 = 1 then
    if v9 = v7 then
      L_X12_edition_211 d v0 v1 v2 v3 v4 v5 v6 v7 v8 (v9 + 1) h u Q
    else
      F_X12_edition_268 d v0 v1 v2 v3 v4 v5 v6 v7 v8 v9 (s0 + s1) h u Q
  else
    F_X12_edition_268 d v0 v1 v2 v3 v4 v5 v6 v7 v8 v9 (s0 + s1) h u Q
set_option maxRecDepth 20000 in
theorem E_X12_edition_250 {d : Nat} {v0 : Option Nm} {v1 : Int32} {v2 : Int32} {v3 : Int32} {v4 : Int32} {v5 : Int32} {v6 : Int32} {v7 : Int32} {v8 : Int32} {v9 : Int32} {s0 : Int32} {s1 : Int32} {h : MH} {u : Nat} {Q : Int32 → MH → Prop} (H : F_X12_edition_250 d v0 v1 v2 v3 v4 v5 v6 v7 v8 v9 s0 s1 h u Q) : T u_X12_edition (d + 2) 250 [some (jR v0), some (jI v1), some (jI v2), some (jI v3), some (jI v4), some (jI v5), some (jI v6), some (jI v7), some (jI v8), some (jI v9), none, none] [jI s1, jI s0] h u (qI Q) := by
  unfold F_X12_edition_250 at H
  refine T_iadd (pc := 250) dX12_edition_250 ?_
  refine T_istore (pc := 251) (ls2 := [some (jR v0), some (jI v1), some (jI v2), some (jI v3), some (jI v4), some (jI v5), some (jI v6), some (jI v7), some (jI v8), some (jI v9), some (jI (s0 + s1)), none]) dX12_edition_251 (Nat.le_of_ble_eq_true rfl) rfl ?_
  refine T_iload_n (pc := 253) dX12_edition_253 rfl rfl ?_
  refine T_iconst (pc := 254) (v := 1) dX12_edition_254 (by decide) ?_
  refine T_icmp_ne (pc := 255) (tgt := 268) dX12_edition_255 (by decide) (fun hc => ?_) (fun hc => ?_)
  · rw [if_neg hc] at H
    exact T.forget (E_X12_edition_268 H) ⟨rfl, rfl, rfl, rfl, rfl, rfl, rfl, rfl, rfl, rfl, rfl, trivial⟩
  · rw [if_pos hc] at H
    refine T_iload (pc := 258) dX12_edition_258 rfl ?_
    refine T_iload (pc := 260) dX12_edition_260 rfl ?_
    refine T_icmp_ne (pc := 262) (tgt := 268) dX12_edition_262 (by decide) (fun hc => ?_) (fun hc => ?_)
    · rw [if_neg hc] at H
      exact T.forget (E_X12_edition_268 H) ⟨rfl, rfl, rfl, rfl, rfl, rfl, rfl, rfl, rfl, rfl, rfl, trivial⟩
    · rw [if_pos hc] at H
      refine T_goto (pc := 265) (tgt := 342) dX12_edition_265 (by decide) ?_
      refine T_iinc (pc := 342) (v := v9 + 1) (ls2 := [some (jR v0), some (jI v1), some (jI v2), some (jI v3), some (jI v4), some (jI v5), some (jI v6), some (jI v7), some (jI v8), some (jI (v9 + 1)), some (jI (s0 + s1)), none]) dX12_edition_342 rfl rfl (Nat.le_of_ble_eq_true rfl) rfl ?_
      refine T_goto (pc := 345) (tgt := 211) dX12_edition_345 (by decide) ?_
      exact T.forget H ⟨rfl, rfl, rfl, rfl, rfl, rfl, rfl, rfl, rfl, rfl, trivial⟩
def F_X12_edition_211 (d : Nat) (v0 : Option Nm) (v1 : Int32) (v2 : Int32) (v3 : Int32) (v4 : Int32) (v5 : Int32) (v6 : Int32) (v7 : Int32) (v8 : Int32) (v9 : Int32) (h : MH) (u : Nat) (Q : Int32 → MH → Prop) : Prop :=
  gR h v0 11 15 fun x1 =>
  aI .int h x1 v6 fun x2 =>
  if x2 ≤ v9 then
    if v2 = 0 then
      gR h v0 11 16 fun x3 =>
      sV .int h x3 ((8 * (v6 + 1)) + v8) (jI v3) fun h =>
      gR h v0 11 17 fun x4 =>
      sV .int h x4 ((8 * (v6 + 1)) + v8) (jI v4) fun h =>
      gR h v0 11 18 fun x5 =>
      if v5 = 0 then
        F_X12_edition_402 d v0 v1 v6 v8 x5 ((8 * (v6 + 1)) + v8) 0 h u Q
      else
        rc h v0 11 ∧ F_X12_newConstant d v0 v1 v3 h 0 fun x6 h =>
        F_X12_edition_402 d v0 v1 v6 v8 x5 ((8 * (v6 + 1)) + v8) x6 h u Q
    else
      F_X12_edition_406 d v0 v1 v6 v8 h u Q
  else
    if v2 = 3 then
      gR h v0 11 15 fun x7 =>
      aI .int h x7 v6 fun x8 =>
      F_X12_edition_250 d v0 v1 v2 v3 v4 v5 v6 v7 v8 v9 (8 * v6) ((x8 - 1) - v9) h u Q
    else
      F_X12_edition_250 d v0 v1 v2 v3 v4 v5 v6 v7 v8 v9 (8 * v6) v9 h u Q
set_option maxRecDepth 20000 in
theorem E_X12_edition_211 {d : Nat} {v0 : Option Nm} {v1 : Int32} {v2 : Int32} {v3 : Int32} {v4 : Int32} {v5 : Int32} {v6 : Int32} {v7 : Int32} {v8 : Int32} {v9 : Int32} {h : MH} {u : Nat} {Q : Int32 → MH → Prop} (H : F_X12_edition_211 d v0 v1 v2 v3 v4 v5 v6 v7 v8 v9 h u Q) : T u_X12_edition (d + 2) 211 [some (jR v0), some (jI v1), some (jI v2), some (jI v3), some (jI v4), some (jI v5), some (jI v6), some (jI v7), some (jI v8), some (jI v9), none, none] [] h u (qI Q) := by
  unfold F_X12_edition_211 at H
  refine T_iload (pc := 211) dX12_edition_211 rfl ?_
  refine T_aload_n (pc := 213) dX12_edition_213 rfl rfl ?_
  refine T_gR (pc := 214) fa_X12_42 dX12_edition_214 (gR_mono (fun x1 H => ?_) H)
  refine T_iload (pc := 217) dX12_edition_217 rfl ?_
  refine T_aI (pc := 219) dX12_edition_219 (aI_mono (fun x2 H => ?_) H)
  refine T_icmp_ge (pc := 220) (tgt := 348) dX12_edition_220 (by decide) (fun hc => ?_) (fun hc => ?_)
  · rw [if_pos hc] at H
    refine T_iload_n (pc := 348) dX12_edition_348 rfl rfl ?_
    refine T_if_ne (pc := 349) (tgt := 406) dX12_edition_349 (by decide) (fun hc => ?_) (fun hc => ?_)
    · rw [if_neg hc] at H
      exact T.forget (E_X12_edition_406 H) ⟨rfl, rfl, rfl, rfl, trivial⟩
    · rw [if_pos hc] at H
      refine T_bipush (pc := 352) (v := 8) dX12_edition_352 (by decide) ?_
      refine T_iload (pc := 354) dX12_edition_354 rfl ?_
      refine T_iconst (pc := 356) (v := 1) dX12_edition_356 (by decide) ?_
      refine T_iadd (pc := 357) dX12_edition_357 ?_
      refine T_imul (pc := 358) dX12_edition_358 ?_
      refine T_iload (pc := 359) dX12_edition_359 rfl ?_
      refine T_iadd (pc := 361) dX12_edition_361 ?_
      refine T_istore (pc := 362) (ls2 := [some (jR v0), some (jI v1), some (jI v2), some (jI v3), some (jI v4), some (jI v5), some (jI v6), some (jI v7), some (jI v8), some (jI ((8 * (v6 + 1)) + v8)), none, none]) dX12_edition_362 (Nat.le_of_ble_eq_true rfl) rfl ?_
      refine T_aload_n (pc := 364) dX12_edition_364 rfl rfl ?_
      refine T_gR (pc := 365) fa_X12_45 dX12_edition_365 (gR_mono (fun x3 H => ?_) H)
      refine T_iload (pc := 368) dX12_edition_368 rfl ?_
      refine T_iload_n (pc := 370) dX12_edition_370 rfl rfl ?_
      refine T_sI (pc := 371) dX12_edition_371 (sV_mono (fun h H => ?_) H)
      refine T_aload_n (pc := 372) dX12_edition_372 rfl rfl ?_
      refine T_gR (pc := 373) fa_X12_48 dX12_edition_373 (gR_mono (fun x4 H => ?_) H)
      refine T_iload (pc := 376) dX12_edition_376 rfl ?_
      refine T_iload (pc := 378) dX12_edition_378 rfl ?_
      refine T_sI (pc := 380) dX12_edition_380 (sV_mono (fun h H => ?_) H)
      refine T_aload_n (pc := 381) dX12_edition_381 rfl rfl ?_
      refine T_gR (pc := 382) fa_X12_51 dX12_edition_382 (gR_mono (fun x5 H => ?_) H)
      refine T_iload (pc := 385) dX12_edition_385 rfl ?_
      refine T_iload (pc := 387) dX12_edition_387 rfl ?_
      refine T_if_eq (pc := 389) (tgt := 401) dX12_edition_389 (by decide) (fun hc => ?_) (fun hc => ?_)
      · rw [if_pos hc] at H
        refine T_iconst (pc := 401) (v := 0) dX12_edition_401 (by decide) ?_
        exact T.forget (E_X12_edition_402 H) ⟨rfl, rfl, rfl, rfl, trivial⟩
      · rw [if_neg hc] at H
        refine T_aload_n (pc := 392) dX12_edition_392 rfl rfl ?_
        refine T_iload_n (pc := 393) dX12_edition_393 rfl rfl ?_
        refine T_iload_n (pc := 394) dX12_edition_394 rfl rfl ?_
        obtain ⟨H0, H⟩ := H
        refine T_iV (pc := 395) (ci := 11) (av := [jI v1, jI v3]) (rest := [jI ((8 * (v6 + 1)) + v8), jR x5]) (o := v0) dX12_edition_395 mf_X12_newConstant c_5_214 c_5_216 pr_X12_newConstant rfl rfl (Nat.le_of_ble_eq_true rfl) rfl H0 (iI_k (iI_m0 (fun x6 h H => ?_) (J_X12_newConstant (d := d) H)))
        refine T_goto (pc := 398) (tgt := 402) dX12_edition_398 (by decide) ?_
        exact T.forget (E_X12_edition_402 H) ⟨rfl, rfl, rfl, rfl, trivial⟩
  · rw [if_neg hc] at H
    refine T_bipush (pc := 223) (v := 8) dX12_edition_223 (by decide) ?_
    refine T_iload (pc := 225) dX12_edition_225 rfl ?_
    refine T_imul (pc := 227) dX12_edition_227 ?_
    refine T_iload_n (pc := 228) dX12_edition_228 rfl rfl ?_
    refine T_iconst (pc := 229) (v := 3) dX12_edition_229 (by decide) ?_
    refine T_icmp_ne (pc := 230) (tgt := 248) dX12_edition_230 (by decide) (fun hc => ?_) (fun hc => ?_)
    · rw [if_neg hc] at H
      refine T_iload (pc := 248) dX12_edition_248 rfl ?_
      exact T.forget (E_X12_edition_250 H) ⟨rfl, rfl, rfl, rfl, rfl, rfl, rfl, rfl, rfl, rfl, trivial⟩
    · rw [if_pos hc] at H
      refine T_aload_n (pc := 233) dX12_edition_233 rfl rfl ?_
      refine T_gR (pc := 234) fa_X12_42 dX12_edition_234 (gR_mono (fun x7 H => ?_) H)
      refine T_iload (pc := 237) dX12_edition_237 rfl ?_
      refine T_aI (pc := 239) dX12_edition_239 (aI_mono (fun x8 H => ?_) H)
      refine T_iconst (pc := 240) (v := 1) dX12_edition_240 (by decide) ?_
      refine T_isub (pc := 241) dX12_edition_241 ?_
      refine T_iload (pc := 242) dX12_edition_242 rfl ?_
      refine T_isub (pc := 244) dX12_edition_244 ?_
      refine T_goto (pc := 245) (tgt := 250) dX12_edition_245 (by decide) ?_
      exact T.forget (E_X12_edition_250 H) ⟨rfl, rfl, rfl, rfl, rfl, rfl, rfl, rfl, rfl, rfl, trivial⟩
theorem I_X12_edition {d : Nat} {v0 : Option Nm} {v1 : Int32} {v2 : Int32} {v3 : Int32} {v4 : Int32} {h : MH} {u : Nat} {K : Int32 → MH → Nat → Prop} (u1 : Nat) (hu : u1 ≤ u) (H : F_X12_edition d v0 v1 v2 v3 v4 h u1 (fun x h2 => K x h2 (u - u1))) : iI (d + 2) u_X12_edition [jR v0, jI v1, jI v2, jI v3, jI v4] h u K := inv.of u1 hu (Ct.of (by decide +kernel) rfl (Nat.le_of_ble_eq_true rfl) rfl (E_X12_edition H))
theorem J_X12_edition {d : Nat} {v0 : Option Nm} {v1 : Int32} {v2 : Int32} {v3 : Int32} {v4 : Int32} {h : MH} {u : Nat} {K : Int32 → MH → Prop} (H : F_X12_edition d v0 v1 v2 v3 v4 h 0 K) : iI (d + 2) u_X12_edition [jR v0, jI v1, jI v2, jI v3, jI v4] h u (fun x h2 u2 => K x h2 ∧ u2 = u) := jiI (by decide +kernel) rfl (Nat.le_of_ble_eq_true rfl) rfl (E_X12_edition H)
theorem dX12_sign_0 : decode cX12_sign 0 = .ok (.iload_n 0, 1) := by decide +kernel
theorem dX12_sign_1 : decode cX12_sign 1 = .ok (.iload_n 1, 1) := by decide +kernel
theorem dX12_sign_2 : decode cX12_sign 2 = .ok (.if_icmp .ge 7, 3) := by decide +kernel
theorem dX12_sign_5 : decode cX12_sign 5 = .ok (.iconst (-1), 1) := by decide +kernel
theorem dX12_sign_6 : decode cX12_sign 6 = .ok (.goto 13, 3) := by decide +kernel
theorem dX12_sign_9 : decode cX12_sign 9 = .ok (.iload_n 0, 1) := by decide +kernel
theorem dX12_sign_10 : decode cX12_sign 10 = .ok (.iload_n 1, 1) := by decide +kernel
theorem dX12_sign_11 : decode cX12_sign 11 = .ok (.if_icmp .le 7, 3) := by decide +kernel
theorem dX12_sign_14 : decode cX12_sign 14 = .ok (.iconst 1, 1) := by decide +kernel
theorem dX12_sign_15 : decode cX12_sign 15 = .ok (.goto 4, 3) := by decide +kernel
theorem dX12_sign_18 : decode cX12_sign 18 = .ok (.iconst 0, 1) := by decide +kernel
theorem dX12_sign_19 : decode cX12_sign 19 = .ok (.ireturn, 1) := by decide +kernel
def F_X12_sign (d : Nat) (v0 : Int32) (v1 : Int32) (h : MH) (u : Nat) (Q : Int32 → MH → Prop) : Prop :=
  if v1 ≤ v0 then
    if v0 ≤ v1 then
      Q 0 h
    else
      Q 1 h
  else
    Q (-1) h
set_option maxRecDepth 20000 in
theorem E_X12_sign {d : Nat} {v0 : Int32} {v1 : Int32} {h : MH} {u : Nat} {Q : Int32 → MH → Prop} (H : F_X12_sign d v0 v1 h u Q) : T u_X12_sign d 0 [some (jI v0), some (jI v1)] [] h u (qI Q) := by
  unfold F_X12_sign at H
  refine T_iload_n (pc := 0) dX12_sign_0 rfl rfl ?_
  refine T_iload_n (pc := 1) dX12_sign_1 rfl rfl ?_
  refine T_icmp_ge (pc := 2) (tgt := 9) dX12_sign_2 (by decide) (fun hc => ?_) (fun hc => ?_)
  · rw [if_pos hc] at H
    refine T_iload_n (pc := 9) dX12_sign_9 rfl rfl ?_
    refine T_iload_n (pc := 10) dX12_sign_10 rfl rfl ?_
    refine T_icmp_le (pc := 11) (tgt := 18) dX12_sign_11 (by decide) (fun hc => ?_) (fun hc => ?_)
    · rw [if_pos hc] at H
      refine T_iconst (pc := 18) (v := 0) dX12_sign_18 (by decide) ?_
      exact T_ireturn (pc := 19) rfl rfl dX12_sign_19 H
    · rw [if_neg hc] at H
      refine T_iconst (pc := 14) (v := 1) dX12_sign_14 (by decide) ?_
      refine T_goto (pc := 15) (tgt := 19) dX12_sign_15 (by decide) ?_
      exact T_ireturn (pc := 19) rfl rfl dX12_sign_19 H
  · rw [if_neg hc] at H
    refine T_iconst (pc := 5) (v := (-1)) dX12_sign_5 (by decide) ?_
    refine T_goto (pc := 6) (tgt := 19) dX12_sign_6 (by decide) ?_
    exact T_ireturn (pc := 19) rfl rfl dX12_sign_19 H
theorem I_X12_sign {d : Nat} {v0 : Int32} {v1 : Int32} {h : MH} {u : Nat} {K : Int32 → MH → Nat → Prop} (u1 : Nat) (hu : u1 ≤ u) (H : F_X12_sign d v0 v1 h u1 (fun x h2 => K x h2 (u - u1))) : iI d u_X12_sign [jI v0, jI v1] h u K := inv.of u1 hu (Ct.of (by decide +kernel) rfl (Nat.le_of_ble_eq_true rfl) rfl (E_X12_sign H))
theorem J_X12_sign {d : Nat} {v0 : Int32} {v1 : Int32} {h : MH} {u : Nat} {K : Int32 → MH → Prop} (H : F_X12_sign d v0 v1 h 0 K) : iI d u_X12_sign [jI v0, jI v1] h u (fun x h2 u2 => K x h2 ∧ u2 = u) := jiI (by decide +kernel) rfl (Nat.le_of_ble_eq_true rfl) rfl (E_X12_sign H)
theorem dX12_meet_0 : decode cX12_meet 0 = .ok (.iload_n 1, 1) := by decide +kernel
theorem dX12_meet_1 : decode cX12_meet 1 = .ok (.ifCond .lt 12, 3) := by decide +kernel
theorem dX12_meet_4 : decode cX12_meet 4 = .ok (.iload_n 2, 1) := by decide +kernel
theorem dX12_meet_5 : decode cX12_meet 5 = .ok (.ifCond .lt 8, 3) := by decide +kernel
theorem dX12_meet_8 : decode cX12_meet 8 = .ok (.iload_n 1, 1) := by decide +kernel
theorem dX12_meet_9 : decode cX12_meet 9 = .ok (.iload_n 2, 1) := by decide +kernel
theorem dX12_meet_10 : decode cX12_meet 10 = .ok (.if_icmp .ne 22, 3) := by decide +kernel
theorem dX12_meet_13 : decode cX12_meet 13 = .ok (.iload_n 1, 1) := by decide +kernel
theorem dX12_meet_14 : decode cX12_meet 14 = .ok (.iload_n 2, 1) := by decide +kernel
theorem dX12_meet_15 : decode cX12_meet 15 = .ok (.if_icmp .ne 7, 3) := by decide +kernel
theorem dX12_meet_18 : decode cX12_meet 18 = .ok (.iconst 0, 1) := by decide +kernel
theorem dX12_meet_19 : decode cX12_meet 19 = .ok (.goto 12, 3) := by decide +kernel
theorem dX12_meet_22 : decode cX12_meet 22 = .ok (.iload_n 1, 1) := by decide +kernel
theorem dX12_meet_23 : decode cX12_meet 23 = .ok (.ifCond .ge 7, 3) := by decide +kernel
theorem dX12_meet_26 : decode cX12_meet 26 = .ok (.iconst (-1), 1) := by decide +kernel
theorem dX12_meet_27 : decode cX12_meet 27 = .ok (.goto 4, 3) := by decide +kernel
theorem dX12_meet_30 : decode cX12_meet 30 = .ok (.iconst 1, 1) := by decide +kernel
theorem dX12_meet_31 : decode cX12_meet 31 = .ok (.ireturn, 1) := by decide +kernel
theorem dX12_meet_32 : decode cX12_meet 32 = .ok (.aload_n 0, 1) := by decide +kernel
theorem dX12_meet_33 : decode cX12_meet 33 = .ok (.getfield 66, 3) := by decide +kernel
theorem dX12_meet_36 : decode cX12_meet 36 = .ok (.iload_n 1, 1) := by decide +kernel
theorem dX12_meet_37 : decode cX12_meet 37 = .ok (.iaload, 1) := by decide +kernel
theorem dX12_meet_38 : decode cX12_meet 38 = .ok (.aload_n 0, 1) := by decide +kernel
theorem dX12_meet_39 : decode cX12_meet 39 = .ok (.getfield 66, 3) := by decide +kernel
theorem dX12_meet_42 : decode cX12_meet 42 = .ok (.iload_n 2, 1) := by decide +kernel
theorem dX12_meet_43 : decode cX12_meet 43 = .ok (.iaload, 1) := by decide +kernel
theorem dX12_meet_44 : decode cX12_meet 44 = .ok (.invokestatic 274, 3) := by decide +kernel
theorem dX12_meet_47 : decode cX12_meet 47 = .ok (.istore_n 3, 1) := by decide +kernel
theorem dX12_meet_48 : decode cX12_meet 48 = .ok (.iload_n 3, 1) := by decide +kernel
theorem dX12_meet_49 : decode cX12_meet 49 = .ok (.ifCond .ne 21, 3) := by decide +kernel
theorem dX12_meet_52 : decode cX12_meet 52 = .ok (.aload_n 0, 1) := by decide +kernel
theorem dX12_meet_53 : decode cX12_meet 53 = .ok (.getfield 69, 3) := by decide +kernel
theorem dX12_meet_56 : decode cX12_meet 56 = .ok (.iload_n 1, 1) := by decide +kernel
theorem dX12_meet_57 : decode cX12_meet 57 = .ok (.iaload, 1) := by decide +kernel
theorem dX12_meet_58 : decode cX12_meet 58 = .ok (.aload_n 0, 1) := by decide +kernel
theorem dX12_meet_59 : decode cX12_meet 59 = .ok (.getfield 69, 3) := by decide +kernel
theorem dX12_meet_62 : decode cX12_meet 62 = .ok (.iload_n 2, 1) := by decide +kernel
theorem dX12_meet_63 : decode cX12_meet 63 = .ok (.iaload, 1) := by decide +kernel
theorem dX12_meet_64 : decode cX12_meet 64 = .ok (.invokestatic 274, 3) := by decide +kernel
theorem dX12_meet_67 : decode cX12_meet 67 = .ok (.goto 4, 3) := by decide +kernel
theorem dX12_meet_70 : decode cX12_meet 70 = .ok (.iload_n 3, 1) := by decide +kernel
theorem dX12_meet_71 : decode cX12_meet 71 = .ok (.istore_n 3, 1) := by decide +kernel
theorem dX12_meet_72 : decode cX12_meet 72 = .ok (.iload_n 3, 1) := by decide +kernel
theorem dX12_meet_73 : decode cX12_meet 73 = .ok (.ifCond .eq 5, 3) := by decide +kernel
theorem dX12_meet_76 : decode cX12_meet 76 = .ok (.iload_n 3, 1) := by decide +kernel
theorem dX12_meet_77 : decode cX12_meet 77 = .ok (.ireturn, 1) := by decide +kernel
theorem dX12_meet_78 : decode cX12_meet 78 = .ok (.aload_n 0, 1) := by decide +kernel
theorem dX12_meet_79 : decode cX12_meet 79 = .ok (.iload_n 1, 1) := by decide +kernel
theorem dX12_meet_80 : decode cX12_meet 80 = .ok (.invokevirtual 261, 3) := by decide +kernel
theorem dX12_meet_83 : decode cX12_meet 83 = .ok (.ifCond .eq 19, 3) := by decide +kernel
theorem dX12_meet_86 : decode cX12_meet 86 = .ok (.aload_n 0, 1) := by decide +kernel
theorem dX12_meet_87 : decode cX12_meet 87 = .ok (.getfield 72, 3) := by decide +kernel
theorem dX12_meet_90 : decode cX12_meet 90 = .ok (.iload_n 1, 1) := by decide +kernel
theorem dX12_meet_91 : decode cX12_meet 91 = .ok (.iaload, 1) := by decide +kernel
theorem dX12_meet_92 : decode cX12_meet 92 = .ok (.aload_n 0, 1) := by decide +kernel
theorem dX12_meet_93 : decode cX12_meet 93 = .ok (.getfield 72, 3) := by decide +kernel
theorem dX12_meet_96 : decode cX12_meet 96 = .ok (.iload_n 2, 1) := by decide +kernel
theorem dX12_meet_97 : decode cX12_meet 97 = .ok (.iaload, 1) := by decide +kernel
theorem dX12_meet_98 : decode cX12_meet 98 = .ok (.invokestatic 274, 3) := by decide +kernel
theorem dX12_meet_101 : decode cX12_meet 101 = .ok (.ireturn, 1) := by decide +kernel
theorem dX12_meet_102 : decode cX12_meet 102 = .ok (.aload_n 0, 1) := by decide +kernel
theorem dX12_meet_103 : decode cX12_meet 103 = .ok (.iload_n 1, 1) := by decide +kernel
theorem dX12_meet_104 : decode cX12_meet 104 = .ok (.iload_n 2, 1) := by decide +kernel
theorem dX12_meet_105 : decode cX12_meet 105 = .ok (.invokevirtual 277, 3) := by decide +kernel
theorem dX12_meet_108 : decode cX12_meet 108 = .ok (.iconst 0, 1) := by decide +kernel
theorem dX12_meet_109 : decode cX12_meet 109 = .ok (.ireturn, 1) := by decide +kernel
def F_X12_meet_13 (d : Nat) (v1 : Int32) (v2 : Int32) (h : MH) (u : Nat) (Q : Int32 → MH → Prop) : Prop :=
  if v1 = v2 then
    Q 0 h
  else
    if 0 ≤ v1 then
      Q 1 h
    else
      Q (-1) h
set_option maxRecDepth 20000 in
theorem E_X12_meet_13 {d : Nat} {v1 : Int32} {v2 : Int32} {h : MH} {u : Nat} {Q : Int32 → MH → Prop} (H : F_X12_meet_13 d v1 v2 h u Q) : T u_X12_meet (d + 1) 13 [none, some (jI v1), some (jI v2), none] [] h u (qI Q) := by
  unfold F_X12_meet_13 at H
  refine T_iload_n (pc := 13) dX12_meet_13 rfl rfl ?_
  refine T_iload_n (pc := 14) dX12_meet_14 rfl rfl ?_
  refine T_icmp_ne (pc := 15) (tgt := 22) dX12_meet_15 (by decide) (fun hc => ?_) (fun hc => ?_)
  · rw [if_neg hc] at H
    refine T_iload_n (pc := 22) dX12_meet_22 rfl rfl ?_
    refine T_if_ge (pc := 23) (tgt := 30) dX12_meet_23 (by decide) (fun hc => ?_) (fun hc => ?_)
    · rw [if_pos hc] at H
      refine T_iconst (pc := 30) (v := 1) dX12_meet_30 (by decide) ?_
      exact T_ireturn (pc := 31) rfl rfl dX12_meet_31 H
    · rw [if_neg hc] at H
      refine T_iconst (pc := 26) (v := (-1)) dX12_meet_26 (by decide) ?_
      refine T_goto (pc := 27) (tgt := 31) dX12_meet_27 (by decide) ?_
      exact T_ireturn (pc := 31) rfl rfl dX12_meet_31 H
  · rw [if_pos hc] at H
    refine T_iconst (pc := 18) (v := 0) dX12_meet_18 (by decide) ?_
    refine T_goto (pc := 19) (tgt := 31) dX12_meet_19 (by decide) ?_
    exact T_ireturn (pc := 31) rfl rfl dX12_meet_31 H
def F_X12_meet_71 (d : Nat) (v0 : Option Nm) (v1 : Int32) (v2 : Int32) (s0 : Int32) (h : MH) (u : Nat) (Q : Int32 → MH → Prop) : Prop :=
  if s0 = 0 then
    rc h v0 11 ∧ F_X12_isConstant d v0 v1 h 0 fun x1 h =>
    if x1 = 0 then
      rc h v0 11 ∧ F_X12_push d v0 v1 v2 h 0 fun h =>
      Q 0 h
    else
      gR h v0 11 27 fun x3 =>
      aI .int h x3 v1 fun x4 =>
      gR h v0 11 27 fun x5 =>
      aI .int h x5 v2 fun x6 =>
      F_X12_sign d x4 x6 h 0 fun x7 h =>
      Q x7 h
  else
    Q s0 h
set_option maxRecDepth 20000 in
theorem E_X12_meet_71 {d : Nat} {v0 : Option Nm} {v1 : Int32} {v2 : Int32} {s0 : Int32} {h : MH} {u : Nat} {Q : Int32 → MH → Prop} (H : F_X12_meet_71 d v0 v1 v2 s0 h u Q) : T u_X12_meet (d + 1) 71 [some (jR v0), some (jI v1), some (jI v2), none] [jI s0] h u (qI Q) := by
  unfold F_X12_meet_71 at H
  refine T_istore_n (pc := 71) (ls2 := [some (jR v0), some (jI v1), some (jI v2), some (jI s0)]) dX12_meet_71 rfl (Nat.le_of_ble_eq_true rfl) rfl ?_
  refine T_iload_n (pc := 72) dX12_meet_72 rfl rfl ?_
  refine T_if_eq (pc := 73) (tgt := 78) dX12_meet_73 (by decide) (fun hc => ?_) (fun hc => ?_)
  · rw [if_pos hc] at H
    refine T_aload_n (pc := 78) dX12_meet_78 rfl rfl ?_
    refine T_iload_n (pc := 79) dX12_meet_79 rfl rfl ?_
    obtain ⟨H0, H⟩ := H
    refine T_iV (pc := 80) (ci := 11) (av := [jI v1]) (rest := []) (o := v0) dX12_meet_80 mf_X12_isConstant c_6_34 c_6_36 pr_X12_isConstant rfl rfl (Nat.le_of_ble_eq_true rfl) rfl H0 (iI_k (iI_m0 (fun x1 h H => ?_) (J_X12_isConstant (d := d) H)))
    refine T_if_eq (pc := 83) (tgt := 102) dX12_meet_83 (by decide) (fun hc => ?_) (fun hc => ?_)
    · rw [if_pos hc] at H
      refine T_aload_n (pc := 102) dX12_meet_102 rfl rfl ?_
      refine T_iload_n (pc := 103) dX12_meet_103 rfl rfl ?_
      refine T_iload_n (pc := 104) dX12_meet_104 rfl rfl ?_
      obtain ⟨H0, H⟩ := H
      refine T_iV (pc := 105) (ci := 11) (av := [jI v1, jI v2]) (rest := []) (o := v0) dX12_meet_105 mf_X12_push c_6_86 c_6_88 pr_X12_push rfl rfl (Nat.le_of_ble_eq_true rfl) rfl H0 (iV_k (iV_m0 (fun h H => ?_) (J_X12_push (d := d) H)))
      refine T_iconst (pc := 108) (v := 0) dX12_meet_108 (by decide) ?_
      exact T_ireturn (pc := 109) rfl rfl dX12_meet_109 H
    · rw [if_neg hc] at H
      refine T_aload_n (pc := 86) dX12_meet_86 rfl rfl ?_
      refine T_gR (pc := 87) fa_X12_72 dX12_meet_87 (gR_mono (fun x3 H => ?_) H)
      refine T_iload_n (pc := 90) dX12_meet_90 rfl rfl ?_
      refine T_aI (pc := 91) dX12_meet_91 (aI_mono (fun x4 H => ?_) H)
      refine T_aload_n (pc := 92) dX12_meet_92 rfl rfl ?_
      refine T_gR (pc := 93) fa_X12_72 dX12_meet_93 (gR_mono (fun x5 H => ?_) H)
      refine T_iload_n (pc := 96) dX12_meet_96 rfl rfl ?_
      refine T_aI (pc := 97) dX12_meet_97 (aI_mono (fun x6 H => ?_) H)
      refine T_invS (pc := 98) (av := [jI x4, jI x6]) (rest := []) dX12_meet_98 mf_X12_sign c_6_83 c_6_84 rfl (Nat.le_of_ble_eq_true rfl) rfl (iI_k (iI_m0 (fun x7 h H => ?_) (J_X12_sign (d := d) H)))
      exact T_ireturn (pc := 101) rfl rfl dX12_meet_101 H
  · rw [if_neg hc] at H
    refine T_iload_n (pc := 76) dX12_meet_76 rfl rfl ?_
    exact T_ireturn (pc := 77) rfl rfl dX12_meet_77 H
def F_X12_meet (d : Nat) (v0 : Option Nm) (v1 : Int32) (v2 : Int32) (h : MH) (u : Nat) (Q : Int32 → MH → Prop) : Prop :=
  if v1 < 0 then
    F_X12_meet_13 d v1 v2 h u Q
  else
    if v2 < 0 then
      F_X12_meet_13 d v1 v2 h u Q
    else
      if v1 = v2 then
        F_X12_meet_13 d v1 v2 h u Q
      else
        gR h v0 11 25 fun x1 =>
        aI .int h x1 v1 fun x2 =>
        gR h v0 11 25 fun x3 =>
        aI .int h x3 v2 fun x4 =>
        F_X12_sign d x2 x4 h 0 fun x5 h =>
        if x5 = 0 then
          gR h v0 11 26 fun x6 =>
          aI .int h x6 v1 fun x7 =>
          gR h v0 11 26 fun x8 =>
          aI .int h x8 v2 fun x9 =>
          F_X12_sign d x7 x9 h 0 fun x10 h =>
          F_X12_meet_71 d v0 v1 v2 x10 h u Q
        else
          F_X12_meet_71 d v0 v1 v2 x5 h u Q
set_option maxRecDepth 20000 in
theorem E_X12_meet {d : Nat} {v0 : Option Nm} {v1 : Int32} {v2 : Int32} {h : MH} {u : Nat} {Q : Int32 → MH → Prop} (H : F_X12_meet d v0 v1 v2 h u Q) : T u_X12_meet (d + 1) 0 [some (jR v0), some (jI v1), some (jI v2), none] [] h u (qI Q) := by
  unfold F_X12_meet at H
  refine T_iload_n (pc := 0) dX12_meet_0 rfl rfl ?_
  refine T_if_lt (pc := 1) (tgt := 13) dX12_meet_1 (by decide) (fun hc => ?_) (fun hc => ?_)
  · rw [if_pos hc] at H
    exact T.forget (E_X12_meet_13 H) ⟨rfl, rfl, trivial⟩
  · rw [if_neg hc] at H
    refine T_iload_n (pc := 4) dX12_meet_4 rfl rfl ?_
    refine T_if_lt (pc := 5) (tgt := 13) dX12_meet_5 (by decide) (fun hc => ?_) (fun hc => ?_)
    · rw [if_pos hc] at H
      exact T.forget (E_X12_meet_13 H) ⟨rfl, rfl, trivial⟩
    · rw [if_neg hc] at H
      refine T_iload_n (pc := 8) dX12_meet_8 rfl rfl ?_
      refine T_iload_n (pc := 9) dX12_meet_9 rfl rfl ?_
      refine T_icmp_ne (pc := 10) (tgt := 32) dX12_meet_10 (by decide) (fun hc => ?_) (fun hc => ?_)
      · rw [if_neg hc] at H
        refine T_aload_n (pc := 32) dX12_meet_32 rfl rfl ?_
        refine T_gR (pc := 33) fa_X12_66 dX12_meet_33 (gR_mono (fun x1 H => ?_) H)
        refine T_iload_n (pc := 36) dX12_meet_36 rfl rfl ?_
        refine T_aI (pc := 37) dX12_meet_37 (aI_mono (fun x2 H => ?_) H)
        refine T_aload_n (pc := 38) dX12_meet_38 rfl rfl ?_
        refine T_gR (pc := 39) fa_X12_66 dX12_meet_39 (gR_mono (fun x3 H => ?_) H)
        refine T_iload_n (pc := 42) dX12_meet_42 rfl rfl ?_
        refine T_aI (pc := 43) dX12_meet_43 (aI_mono (fun x4 H => ?_) H)
        refine T_invS (pc := 44) (av := [jI x2, jI x4]) (rest := []) dX12_meet_44 mf_X12_sign c_6_83 c_6_84 rfl (Nat.le_of_ble_eq_true rfl) rfl (iI_k (iI_m0 (fun x5 h H => ?_) (J_X12_sign (d := d) H)))
        refine T_istore_n (pc := 47) (ls2 := [some (jR v0), some (jI v1), some (jI v2), some (jI x5)]) dX12_meet_47 rfl (Nat.le_of_ble_eq_true rfl) rfl ?_
        refine T_iload_n (pc := 48) dX12_meet_48 rfl rfl ?_
        refine T_if_ne (pc := 49) (tgt := 70) dX12_meet_49 (by decide) (fun hc => ?_) (fun hc => ?_)
        · rw [if_neg hc] at H
          refine T_iload_n (pc := 70) dX12_meet_70 rfl rfl ?_
          exact T.forget (E_X12_meet_71 H) ⟨rfl, rfl, rfl, trivial⟩
        · rw [if_pos hc] at H
          refine T_aload_n (pc := 52) dX12_meet_52 rfl rfl ?_
          refine T_gR (pc := 53) fa_X12_69 dX12_meet_53 (gR_mono (fun x6 H => ?_) H)
          refine T_iload_n (pc := 56) dX12_meet_56 rfl rfl ?_
          refine T_aI (pc := 57) dX12_meet_57 (aI_mono (fun x7 H => ?_) H)
          refine T_aload_n (pc := 58) dX12_meet_58 rfl rfl ?_
          refine T_gR (pc := 59) fa_X12_69 dX12_meet_59 (gR_mono (fun x8 H => ?_) H)
          refine T_iload_n (pc := 62) dX12_meet_62 rfl rfl ?_
          refine T_aI (pc := 63) dX12_meet_63 (aI_mono (fun x9 H => ?_) H)
          refine T_invS (pc := 64) (av := [jI x7, jI x9]) (rest := []) dX12_meet_64 mf_X12_sign c_6_83 c_6_84 rfl (Nat.le_of_ble_eq_true rfl) rfl (iI_k (iI_m0 (fun x10 h H => ?_) (J_X12_sign (d := d) H)))
          refine T_goto (pc := 67) (tgt := 71) dX12_meet_67 (by decide) ?_
          exact T.forget (E_X12_meet_71 H) ⟨rfl, rfl, rfl, trivial⟩
      · rw [if_pos hc] at H
        exact T.forget (E_X12_meet_13 H) ⟨rfl, rfl, trivial⟩
theorem I_X12_meet {d : Nat} {v0 : Option Nm} {v1 : Int32} {v2 : Int32} {h : MH} {u : Nat} {K : Int32 → MH → Nat → Prop} (u1 : Nat) (hu : u1 ≤ u) (H : F_X12_meet d v0 v1 v2 h u1 (fun x h2 => K x h2 (u - u1))) : iI (d + 1) u_X12_meet [jR v0, jI v1, jI v2] h u K := inv.of u1 hu (Ct.of (by decide +kernel) rfl (Nat.le_of_ble_eq_true rfl) rfl (E_X12_meet H))
theorem J_X12_meet {d : Nat} {v0 : Option Nm} {v1 : Int32} {v2 : Int32} {h : MH} {u : Nat} {K : Int32 → MH → Prop} (H : F_X12_meet d v0 v1 v2 h 0 K) : iI (d + 1) u_X12_meet [jR v0, jI v1, jI v2] h u (fun x h2 u2 => K x h2 ∧ u2 = u) := jiI (by decide +kernel) rfl (Nat.le_of_ble_eq_true rfl) rfl (E_X12_meet H)
theorem dX12_numbers_0 : decode cX12_numbers 0 = .ok (.iconst 0, 1) := by decide +kernel
theorem dX12_numbers_1 : decode cX12_numbers 1 = .ok (.istore_n 3, 1) := by decide +kernel
theorem dX12_numbers_2 : decode cX12_numbers 2 = .ok (.iload_n 3, 1) := by decide +kernel
theorem dX12_numbers_3 : decode cX12_numbers 3 = .ok (.aload_n 0, 1) := by decide +kernel
theorem dX12_numbers_4 : decode cX12_numbers 4 = .ok (.getfield 13, 3) := by decide +kernel
theorem dX12_numbers_7 : decode cX12_numbers 7 = .ok (.iload_n 1, 1) := by decide +kernel
theorem dX12_numbers_8 : decode cX12_numbers 8 = .ok (.iaload, 1) := by decide +kernel
theorem dX12_numbers_9 : decode cX12_numbers 9 = .ok (.if_icmp .ge 60, 3) := by decide +kernel
theorem dX12_numbers_12 : decode cX12_numbers 12 = .ok (.iload_n 3, 1) := by decide +kernel
theorem dX12_numbers_13 : decode cX12_numbers 13 = .ok (.aload_n 0, 1) := by decide +kernel
theorem dX12_numbers_14 : decode cX12_numbers 14 = .ok (.getfield 13, 3) := by decide +kernel
theorem dX12_numbers_17 : decode cX12_numbers 17 = .ok (.iload_n 2, 1) := by decide +kernel
theorem dX12_numbers_18 : decode cX12_numbers 18 = .ok (.iaload, 1) := by decide +kernel
theorem dX12_numbers_19 : decode cX12_numbers 19 = .ok (.if_icmp .ge 50, 3) := by decide +kernel
theorem dX12_numbers_22 : decode cX12_numbers 22 = .ok (.aload_n 0, 1) := by decide +kernel
theorem dX12_numbers_23 : decode cX12_numbers 23 = .ok (.getfield 7, 3) := by decide +kernel
theorem dX12_numbers_26 : decode cX12_numbers 26 = .ok (.iload_n 1, 1) := by decide +kernel
theorem dX12_numbers_27 : decode cX12_numbers 27 = .ok (.iaload, 1) := by decide +kernel
theorem dX12_numbers_28 : decode cX12_numbers 28 = .ok (.aload_n 0, 1) := by decide +kernel
theorem dX12_numbers_29 : decode cX12_numbers 29 = .ok (.getfield 20, 3) := by decide +kernel
theorem dX12_numbers_32 : decode cX12_numbers 32 = .ok (.bipush 20, 2) := by decide +kernel
theorem dX12_numbers_34 : decode cX12_numbers 34 = .ok (.iload_n 1, 1) := by decide +kernel
theorem dX12_numbers_35 : decode cX12_numbers 35 = .ok (.imul, 1) := by decide +kernel
theorem dX12_numbers_36 : decode cX12_numbers 36 = .ok (.iload_n 3, 1) := by decide +kernel
theorem dX12_numbers_37 : decode cX12_numbers 37 = .ok (.iadd, 1) := by decide +kernel
theorem dX12_numbers_38 : decode cX12_numbers 38 = .ok (.laload, 1) := by decide +kernel
theorem dX12_numbers_39 : decode cX12_numbers 39 = .ok (.aload_n 0, 1) := by decide +kernel
theorem dX12_numbers_40 : decode cX12_numbers 40 = .ok (.getfield 20, 3) := by decide +kernel
theorem dX12_numbers_43 : decode cX12_numbers 43 = .ok (.bipush 20, 2) := by decide +kernel
theorem dX12_numbers_45 : decode cX12_numbers 45 = .ok (.iload_n 2, 1) := by decide +kernel
theorem dX12_numbers_46 : decode cX12_numbers 46 = .ok (.imul, 1) := by decide +kernel
theorem dX12_numbers_47 : decode cX12_numbers 47 = .ok (.iload_n 3, 1) := by decide +kernel
theorem dX12_numbers_48 : decode cX12_numbers 48 = .ok (.iadd, 1) := by decide +kernel
theorem dX12_numbers_49 : decode cX12_numbers 49 = .ok (.laload, 1) := by decide +kernel
theorem dX12_numbers_50 : decode cX12_numbers 50 = .ok (.invokestatic 281, 3) := by decide +kernel
theorem dX12_numbers_53 : decode cX12_numbers 53 = .ok (.istore 4, 2) := by decide +kernel
theorem dX12_numbers_55 : decode cX12_numbers 55 = .ok (.iload 4, 2) := by decide +kernel
theorem dX12_numbers_57 : decode cX12_numbers 57 = .ok (.ifCond .eq 6, 3) := by decide +kernel
theorem dX12_numbers_60 : decode cX12_numbers 60 = .ok (.iload 4, 2) := by decide +kernel
theorem dX12_numbers_62 : decode cX12_numbers 62 = .ok (.ireturn, 1) := by decide +kernel
theorem dX12_numbers_63 : decode cX12_numbers 63 = .ok (.iinc 3 1, 3) := by decide +kernel
theorem dX12_numbers_66 : decode cX12_numbers 66 = .ok (.goto (-64), 3) := by decide +kernel
theorem dX12_numbers_69 : decode cX12_numbers 69 = .ok (.aload_n 0, 1) := by decide +kernel
theorem dX12_numbers_70 : decode cX12_numbers 70 = .ok (.getfield 13, 3) := by decide +kernel
theorem dX12_numbers_73 : decode cX12_numbers 73 = .ok (.iload_n 1, 1) := by decide +kernel
theorem dX12_numbers_74 : decode cX12_numbers 74 = .ok (.iaload, 1) := by decide +kernel
theorem dX12_numbers_75 : decode cX12_numbers 75 = .ok (.aload_n 0, 1) := by decide +kernel
theorem dX12_numbers_76 : decode cX12_numbers 76 = .ok (.getfield 13, 3) := by decide +kernel
theorem dX12_numbers_79 : decode cX12_numbers 79 = .ok (.iload_n 2, 1) := by decide +kernel
theorem dX12_numbers_80 : decode cX12_numbers 80 = .ok (.iaload, 1) := by decide +kernel
theorem dX12_numbers_81 : decode cX12_numbers 81 = .ok (.invokestatic 274, 3) := by decide +kernel
theorem dX12_numbers_84 : decode cX12_numbers 84 = .ok (.ireturn, 1) := by decide +kernel
def L_X12_numbers_2 (d : Nat) (v0 : Option Nm) (v1 : Int32) (v2 : Int32) (v3 : Int32) (h : MH) (u : Nat) (Q : Int32 → MH → Prop) : Prop := T u_X12_numbers (d + 2) 2 [some (jR v0), some (jI v1), some (jI v2), some (jI v3), none] [] h u (qI Q)
def F_X12_numbers (d : Nat) (v0 : Option Nm) (v1 : Int32) (v2 : Int32) (h : MH) (u : Nat) (Q : Int32 → MH → Prop) : Prop :=
  L_X12_numbers_2 d v0 v1 v2 0 h u Q
set_option maxRecDepth 20000 in
theorem E_X12_numbers {d : Nat} {v0 : Option Nm} {v1 : Int32} {v2 : Int32} {h : MH} {u : Nat} {Q : Int32 → MH → Prop} (H : F_X12_numbers d v0 v1 v2 h u Q) : T u_X12_numbers (d + 2) 0 [some (jR v0), some (jI v1), some (jI v2), none, none] [] h u (qI Q) := by
  unfold F_X12_numbers at H
  refine T_iconst (pc := 0) (v := 0) dX12_numbers_0 (by decide) ?_
  refine T_istore_n (pc := 1) (ls2 := [some (jR v0), some (jI v1), some (jI v2), some (jI 0), none]) dX12_numbers_1 rfl (Nat.le_of_ble_eq_true rfl) rfl ?_
  exact T.forget H ⟨rfl, rfl, rfl, rfl, trivial⟩
def F_X12_numbers_69 (d : Nat) (v0 : Option Nm) (v1 : Int32) (v2 : Int32) (h : MH) (u : Nat) (Q : Int32 → MH → Prop) : Prop :=
  gR h v0 11 5 fun x1 =>
  aI .int h x1 v1 fun x2 =>
  gR h v0 11 5 fun x3 =>
  aI .int h x3 v2 fun x4 =>
  F_X12_sign (d + 1) x2 x4 h 0 fun x5 h =>
  Q x5 h
set_option maxRecDepth 20000 in
theorem E_X12_numbers_69 {d : Nat} {v0 : Option Nm} {v1 : Int32} {v2 : Int32} {h : MH} {u : Nat} {Q : Int32 → MH → Prop} (H : F_X12_numbers_69 d v0 v1 v2 h u Q) : T u_X12_numbers (d + 2) 69 [some (jR v0), some (jI v1), some (jI v2), none, none] [] h u (qI Q) := by
  unfold F_X12_numbers_69 at H
  refine T_aload_n (pc := 69) dX12_numbers_69 rfl rfl ?_
  refine T_gR (pc := 70) fa_X12_13 dX12_numbers_70 (gR_mono (fun x1 H => ?_) H)
  refine T_iload_n (pc := 73) dX12_numbers_73 rfl rfl ?_
  refine T_aI (pc := 74) dX12_numbers_74 (aI_mono (fun x2 H => ?_) H)
  refine T_aload_n (pc := 75) dX12_numbers_75 rfl rfl ?_
  refine T_gR (pc := 76) fa_X12_13 dX12_numbers_76 (gR_mono (fun x3 H => ?_) H)
  refine T_iload_n (pc := 79) dX12_numbers_79 rfl rfl ?_
  refine T_aI (pc := 80) dX12_numbers_80 (aI_mono (fun x4 H => ?_) H)
  refine T_invS (pc := 81) (av := [jI x2, jI x4]) (rest := []) dX12_numbers_81 mf_X12_sign c_6_83 c_6_84 rfl (Nat.le_of_ble_eq_true rfl) rfl (iI_k (iI_m0 (fun x5 h H => ?_) (J_X12_sign (d := (d + 1)) H)))
  exact T_ireturn (pc := 84) rfl rfl dX12_numbers_84 H
def F_X12_numbers_2 (d : Nat) (v0 : Option Nm) (v1 : Int32) (v2 : Int32) (v3 : Int32) (h : MH) (u : Nat) (Q : Int32 → MH → Prop) : Prop :=
  gR h v0 11 5 fun x1 =>
  aI .int h x1 v1 fun x2 =>
  if x2 ≤ v3 then
    F_X12_numbers_69 d v0 v1 v2 h u Q
  else
    gR h v0 11 5 fun x3 =>
    aI .int h x3 v2 fun x4 =>
    if x4 ≤ v3 then
      F_X12_numbers_69 d v0 v1 v2 h u Q
    else
      gR h v0 11 4 fun x5 =>
      aI .int h x5 v1 fun x6 =>
      gR h v0 11 7 fun x7 =>
      aL h x7 ((20 * v1) + v3) fun x8 =>
      gR h v0 11 7 fun x9 =>
      aL h x9 ((20 * v2) + v3) fun x10 =>
      F_X12_compared d x6 x8 x10 h 0 fun x11 h =>
      if x11 = 0 then
        L_X12_numbers_2 d v0 v1 v2 (v3 + 1) h u Q
      else
        Q x11 h
set_option maxRecDepth 20000 in
theorem E_X12_numbers_2 {d : Nat} {v0 : Option Nm} {v1 : Int32} {v2 : Int32} {v3 : Int32} {h : MH} {u : Nat} {Q : Int32 → MH → Prop} (H : F_X12_numbers_2 d v0 v1 v2 v3 h u Q) : T u_X12_numbers (d + 2) 2 [some (jR v0), some (jI v1), some (jI v2), some (jI v3), none] [] h u (qI Q) := by
  unfold F_X12_numbers_2 at H
  refine T_iload_n (pc := 2) dX12_numbers_2 rfl rfl ?_
  refine T_aload_n (pc := 3) dX12_numbers_3 rfl rfl ?_
  refine T_gR (pc := 4) fa_X12_13 dX12_numbers_4 (gR_mono (fun x1 H => ?_) H)
  refine T_iload_n (pc := 7) dX12_numbers_7 rfl rfl ?_
  refine T_aI (pc := 8) dX12_numbers_8 (aI_mono (fun x2 H => ?_) H)
  refine T_icmp_ge (pc := 9) (tgt := 69) dX12_numbers_9 (by decide) (fun hc => ?_) (fun hc => ?_)
  · rw [if_pos hc] at H
    exact T.forget (E_X12_numbers_69 H) ⟨rfl, rfl, rfl, trivial⟩
  · rw [if_neg hc] at H
    refine T_iload_n (pc := 12) dX12_numbers_12 rfl rfl ?_
    refine T_aload_n (pc := 13) dX12_numbers_13 rfl rfl ?_
    refine T_gR (pc := 14) fa_X12_13 dX12_numbers_14 (gR_mono (fun x3 H => ?_) H)
    refine T_iload_n (pc := 17) dX12_numbers_17 rfl rfl ?_
    refine T_aI (pc := 18) dX12_numbers_18 (aI_mono (fun x4 H => ?_) H)
    refine T_icmp_ge (pc := 19) (tgt := 69) dX12_numbers_19 (by decide) (fun hc => ?_) (fun hc => ?_)
    · rw [if_pos hc] at H
      exact T.forget (E_X12_numbers_69 H) ⟨rfl, rfl, rfl, trivial⟩
    · rw [if_neg hc] at H
      refine T_aload_n (pc := 22) dX12_numbers_22 rfl rfl ?_
      refine T_gR (pc := 23) fa_X12_7 dX12_numbers_23 (gR_mono (fun x5 H => ?_) H)
      refine T_iload_n (pc := 26) dX12_numbers_26 rfl rfl ?_
      refine T_aI (pc := 27) dX12_numbers_27 (aI_mono (fun x6 H => ?_) H)
      refine T_aload_n (pc := 28) dX12_numbers_28 rfl rfl ?_
      refine T_gR (pc := 29) fa_X12_20 dX12_numbers_29 (gR_mono (fun x7 H => ?_) H)
      refine T_bipush (pc := 32) (v := 20) dX12_numbers_32 (by decide) ?_
      refine T_iload_n (pc := 34) dX12_numbers_34 rfl rfl ?_
      refine T_imul (pc := 35) dX12_numbers_35 ?_
      refine T_iload_n (pc := 36) dX12_numbers_36 rfl rfl ?_
      refine T_iadd (pc := 37) dX12_numbers_37 ?_
      refine T_aL (pc := 38) dX12_numbers_38 (aL_mono (fun x8 H => ?_) H)
      refine T_aload_n (pc := 39) dX12_numbers_39 rfl rfl ?_
      refine T_gR (pc := 40) fa_X12_20 dX12_numbers_40 (gR_mono (fun x9 H => ?_) H)
      refine T_bipush (pc := 43) (v := 20) dX12_numbers_43 (by decide) ?_
      refine T_iload_n (pc := 45) dX12_numbers_45 rfl rfl ?_
      refine T_imul (pc := 46) dX12_numbers_46 ?_
      refine T_iload_n (pc := 47) dX12_numbers_47 rfl rfl ?_
      refine T_iadd (pc := 48) dX12_numbers_48 ?_
      refine T_aL (pc := 49) dX12_numbers_49 (aL_mono (fun x10 H => ?_) H)
      refine T_invS (pc := 50) (av := [jI x6, jL x8, jL x10]) (rest := []) dX12_numbers_50 mf_X12_compared c_6_94 c_6_95 rfl (Nat.le_of_ble_eq_true rfl) rfl (iI_k (iI_m0 (fun x11 h H => ?_) (J_X12_compared (d := d) H)))
      refine T_istore (pc := 53) (ls2 := [some (jR v0), some (jI v1), some (jI v2), some (jI v3), some (jI x11)]) dX12_numbers_53 (Nat.le_of_ble_eq_true rfl) rfl ?_
      refine T_iload (pc := 55) dX12_numbers_55 rfl ?_
      refine T_if_eq (pc := 57) (tgt := 63) dX12_numbers_57 (by decide) (fun hc => ?_) (fun hc => ?_)
      · rw [if_pos hc] at H
        refine T_iinc (pc := 63) (v := v3 + 1) (ls2 := [some (jR v0), some (jI v1), some (jI v2), some (jI (v3 + 1)), some (jI x11)]) dX12_numbers_63 rfl rfl (Nat.le_of_ble_eq_true rfl) rfl ?_
        refine T_goto (pc := 66) (tgt := 2) dX12_numbers_66 (by decide) ?_
        exact T.forget H ⟨rfl, rfl, rfl, rfl, trivial⟩
      · rw [if_neg hc] at H
        refine T_iload (pc := 60) dX12_numbers_60 rfl ?_
        exact T_ireturn (pc := 62) rfl rfl dX12_numbers_62 H
theorem I_X12_numbers {d : Nat} {v0 : Option Nm} {v1 : Int32} {v2 : Int32} {h : MH} {u : Nat} {K : Int32 → MH → Nat → Prop} (u1 : Nat) (hu : u1 ≤ u) (H : F_X12_numbers d v0 v1 v2 h u1 (fun x h2 => K x h2 (u - u1))) : iI (d + 2) u_X12_numbers [jR v0, jI v1, jI v2] h u K := inv.of u1 hu (Ct.of (by decide +kernel) rfl (Nat.le_of_ble_eq_true rfl) rfl (E_X12_numbers H))
theorem J_X12_numbers {d : Nat} {v0 : Option Nm} {v1 : Int32} {v2 : Int32} {h : MH} {u : Nat} {K : Int32 → MH → Prop} (H : F_X12_numbers d v0 v1 v2 h 0 K) : iI (d + 2) u_X12_numbers [jR v0, jI v1, jI v2] h u (fun x h2 u2 => K x h2 ∧ u2 = u) := jiI (by decide +kernel) rfl (Nat.le_of_ble_eq_true rfl) rfl (E_X12_numbers H)
theorem dX12_step_0 : decode cX12_step 0 = .ok (.aload_n 0, 1) := by decide +kernel
theorem dX12_step_1 : decode cX12_step 1 = .ok (.getfield 271, 3) := by decide +kernel
theorem dX12_step_4 : decode cX12_step 4 = .ok (.iconst 1, 1) := by decide +kernel
theorem dX12_step_5 : decode cX12_step 5 = .ok (.isub, 1) := by decide +kernel
theorem dX12_step_6 : decode cX12_step 6 = .ok (.istore_n 1, 1) := by decide +kernel
theorem dX12_step_7 : decode cX12_step 7 = .ok (.aload_n 0, 1) := by decide +kernel
theorem dX12_step_8 : decode cX12_step 8 = .ok (.getfield 96, 3) := by decide +kernel
theorem dX12_step_11 : decode cX12_step 11 = .ok (.iload_n 1, 1) := by decide +kernel
theorem dX12_step_12 : decode cX12_step 12 = .ok (.iaload, 1) := by decide +kernel
theorem dX12_step_13 : decode cX12_step 13 = .ok (.istore_n 2, 1) := by decide +kernel
theorem dX12_step_14 : decode cX12_step 14 = .ok (.iload_n 2, 1) := by decide +kernel
theorem dX12_step_15 : decode cX12_step 15 = .ok (.aload_n 0, 1) := by decide +kernel
theorem dX12_step_16 : decode cX12_step 16 = .ok (.aload_n 0, 1) := by decide +kernel
theorem dX12_step_17 : decode cX12_step 17 = .ok (.getfield 90, 3) := by decide +kernel
theorem dX12_step_20 : decode cX12_step 20 = .ok (.iload_n 1, 1) := by decide +kernel
theorem dX12_step_21 : decode cX12_step 21 = .ok (.iaload, 1) := by decide +kernel
theorem dX12_step_22 : decode cX12_step 22 = .ok (.invokevirtual 264, 3) := by decide +kernel
theorem dX12_step_25 : decode cX12_step 25 = .ok (.if_icmp .ne 15, 3) := by decide +kernel
theorem dX12_step_28 : decode cX12_step 28 = .ok (.aload_n 0, 1) := by decide +kernel
theorem dX12_step_29 : decode cX12_step 29 = .ok (.dup, 1) := by decide +kernel
theorem dX12_step_30 : decode cX12_step 30 = .ok (.getfield 271, 3) := by decide +kernel
theorem dX12_step_33 : decode cX12_step 33 = .ok (.iconst 1, 1) := by decide +kernel
theorem dX12_step_34 : decode cX12_step 34 = .ok (.isub, 1) := by decide +kernel
theorem dX12_step_35 : decode cX12_step 35 = .ok (.putfield 271, 3) := by decide +kernel
theorem dX12_step_38 : decode cX12_step 38 = .ok (.iconst 0, 1) := by decide +kernel
theorem dX12_step_39 : decode cX12_step 39 = .ok (.ireturn, 1) := by decide +kernel
theorem dX12_step_40 : decode cX12_step 40 = .ok (.aload_n 0, 1) := by decide +kernel
theorem dX12_step_41 : decode cX12_step 41 = .ok (.getfield 84, 3) := by decide +kernel
theorem dX12_step_44 : decode cX12_step 44 = .ok (.bipush 6, 2) := by decide +kernel
theorem dX12_step_46 : decode cX12_step 46 = .ok (.aload_n 0, 1) := by decide +kernel
theorem dX12_step_47 : decode cX12_step 47 = .ok (.getfield 90, 3) := by decide +kernel
theorem dX12_step_50 : decode cX12_step 50 = .ok (.iload_n 1, 1) := by decide +kernel
theorem dX12_step_51 : decode cX12_step 51 = .ok (.iaload, 1) := by decide +kernel
theorem dX12_step_52 : decode cX12_step 52 = .ok (.imul, 1) := by decide +kernel
theorem dX12_step_53 : decode cX12_step 53 = .ok (.iload_n 2, 1) := by decide +kernel
theorem dX12_step_54 : decode cX12_step 54 = .ok (.iadd, 1) := by decide +kernel
theorem dX12_step_55 : decode cX12_step 55 = .ok (.laload, 1) := by decide +kernel
theorem dX12_step_56 : decode cX12_step 56 = .ok (.lstore_n 3, 1) := by decide +kernel
theorem dX12_step_57 : decode cX12_step 57 = .ok (.aload_n 0, 1) := by decide +kernel
theorem dX12_step_58 : decode cX12_step 58 = .ok (.getfield 84, 3) := by decide +kernel
theorem dX12_step_61 : decode cX12_step 61 = .ok (.bipush 6, 2) := by decide +kernel
theorem dX12_step_63 : decode cX12_step 63 = .ok (.aload_n 0, 1) := by decide +kernel
theorem dX12_step_64 : decode cX12_step 64 = .ok (.getfield 93, 3) := by decide +kernel
theorem dX12_step_67 : decode cX12_step 67 = .ok (.iload_n 1, 1) := by decide +kernel
theorem dX12_step_68 : decode cX12_step 68 = .ok (.iaload, 1) := by decide +kernel
theorem dX12_step_69 : decode cX12_step 69 = .ok (.imul, 1) := by decide +kernel
theorem dX12_step_70 : decode cX12_step 70 = .ok (.iload_n 2, 1) := by decide +kernel
theorem dX12_step_71 : decode cX12_step 71 = .ok (.iadd, 1) := by decide +kernel
theorem dX12_step_72 : decode cX12_step 72 = .ok (.laload, 1) := by decide +kernel
theorem dX12_step_73 : decode cX12_step 73 = .ok (.lstore 5, 2) := by decide +kernel
theorem dX12_step_75 : decode cX12_step 75 = .ok (.aload_n 0, 1) := by decide +kernel
theorem dX12_step_76 : decode cX12_step 76 = .ok (.aload_n 0, 1) := by decide +kernel
theorem dX12_step_77 : decode cX12_step 77 = .ok (.getfield 90, 3) := by decide +kernel
theorem dX12_step_80 : decode cX12_step 80 = .ok (.iload_n 1, 1) := by decide +kernel
theorem dX12_step_81 : decode cX12_step 81 = .ok (.iaload, 1) := by decide +kernel
theorem dX12_step_82 : decode cX12_step 82 = .ok (.iload_n 2, 1) := by decide +kernel
theorem dX12_step_83 : decode cX12_step 83 = .ok (.invokevirtual 256, 3) := by decide +kernel
theorem dX12_step_86 : decode cX12_step 86 = .ok (.istore 7, 2) := by decide +kernel
theorem dX12_step_88 : decode cX12_step 88 = .ok (.iload 7, 2) := by decide +kernel
theorem dX12_step_90 : decode cX12_step 90 = .ok (.bipush 9, 2) := by decide +kernel
theorem dX12_step_92 : decode cX12_step 92 = .ok (.if_icmp .ne 23, 3) := by decide +kernel
theorem dX12_step_95 : decode cX12_step 95 = .ok (.lload_n 3, 1) := by decide +kernel
theorem dX12_step_96 : decode cX12_step 96 = .ok (.lconst 0, 1) := by decide +kernel
theorem dX12_step_97 : decode cX12_step 97 = .ok (.lcmp, 1) := by decide +kernel
theorem dX12_step_98 : decode cX12_step 98 = .ok (.ifCond .lt 17, 3) := by decide +kernel
theorem dX12_step_101 : decode cX12_step 101 = .ok (.lload 5, 2) := by decide +kernel
theorem dX12_step_103 : decode cX12_step 103 = .ok (.lconst 0, 1) := by decide +kernel
theorem dX12_step_104 : decode cX12_step 104 = .ok (.lcmp, 1) := by decide +kernel
theorem dX12_step_105 : decode cX12_step 105 = .ok (.ifCond .lt 10, 3) := by decide +kernel
theorem dX12_step_108 : decode cX12_step 108 = .ok (.lload_n 3, 1) := by decide +kernel
theorem dX12_step_109 : decode cX12_step 109 = .ok (.lload 5, 2) := by decide +kernel
theorem dX12_step_111 : decode cX12_step 111 = .ok (.lcmp, 1) := by decide +kernel
theorem dX12_step_112 : decode cX12_step 112 = .ok (.ifCond .ne 84, 3) := by decide +kernel
theorem dX12_step_115 : decode cX12_step 115 = .ok (.aload_n 0, 1) := by decide +kernel
theorem dX12_step_116 : decode cX12_step 116 = .ok (.getfield 96, 3) := by decide +kernel
theorem dX12_step_119 : decode cX12_step 119 = .ok (.iload_n 1, 1) := by decide +kernel
theorem dX12_step_120 : decode cX12_step 120 = .ok (.dup2, 1) := by decide +kernel
theorem dX12_step_121 : decode cX12_step 121 = .ok (.iaload, 1) := by decide +kernel
theorem dX12_step_122 : decode cX12_step 122 = .ok (.iconst 1, 1) := by decide +kernel
theorem dX12_step_123 : decode cX12_step 123 = .ok (.iadd, 1) := by decide +kernel
theorem dX12_step_124 : decode cX12_step 124 = .ok (.iastore, 1) := by decide +kernel
theorem dX12_step_125 : decode cX12_step 125 = .ok (.iload 7, 2) := by decide +kernel
theorem dX12_step_127 : decode cX12_step 127 = .ok (.bipush 8, 2) := by decide +kernel
theorem dX12_step_129 : decode cX12_step 129 = .ok (.if_icmp .ge 14, 3) := by decide +kernel
theorem dX12_step_132 : decode cX12_step 132 = .ok (.iload 7, 2) := by decide +kernel
theorem dX12_step_134 : decode cX12_step 134 = .ok (.lload_n 3, 1) := by decide +kernel
theorem dX12_step_135 : decode cX12_step 135 = .ok (.lload 5, 2) := by decide +kernel
theorem dX12_step_137 : decode cX12_step 137 = .ok (.invokestatic 281, 3) := by decide +kernel
theorem dX12_step_140 : decode cX12_step 140 = .ok (.goto 55, 3) := by decide +kernel
theorem dX12_step_143 : decode cX12_step 143 = .ok (.iload 7, 2) := by decide +kernel
theorem dX12_step_145 : decode cX12_step 145 = .ok (.bipush 8, 2) := by decide +kernel
theorem dX12_step_147 : decode cX12_step 147 = .ok (.if_icmp .ne 15, 3) := by decide +kernel
theorem dX12_step_150 : decode cX12_step 150 = .ok (.aload_n 0, 1) := by decide +kernel
theorem dX12_step_151 : decode cX12_step 151 = .ok (.lload_n 3, 1) := by decide +kernel
theorem dX12_step_152 : decode cX12_step 152 = .ok (.l2i, 1) := by decide +kernel
theorem dX12_step_153 : decode cX12_step 153 = .ok (.lload 5, 2) := by decide +kernel
theorem dX12_step_155 : decode cX12_step 155 = .ok (.l2i, 1) := by decide +kernel
theorem dX12_step_156 : decode cX12_step 156 = .ok (.invokevirtual 285, 3) := by decide +kernel
theorem dX12_step_159 : decode cX12_step 159 = .ok (.goto 36, 3) := by decide +kernel
theorem dX12_step_162 : decode cX12_step 162 = .ok (.lload_n 3, 1) := by decide +kernel
theorem dX12_step_163 : decode cX12_step 163 = .ok (.lload 5, 2) := by decide +kernel
theorem dX12_step_165 : decode cX12_step 165 = .ok (.lcmp, 1) := by decide +kernel
theorem dX12_step_166 : decode cX12_step 166 = .ok (.ifCond .ne 7, 3) := by decide +kernel
theorem dX12_step_169 : decode cX12_step 169 = .ok (.iconst 0, 1) := by decide +kernel
theorem dX12_step_170 : decode cX12_step 170 = .ok (.goto 25, 3) := by decide +kernel
theorem dX12_step_173 : decode cX12_step 173 = .ok (.lload_n 3, 1) := by decide +kernel
theorem dX12_step_174 : decode cX12_step 174 = .ok (.lconst 0, 1) := by decide +kernel
theorem dX12_step_175 : decode cX12_step 175 = .ok (.lcmp, 1) := by decide +kernel
theorem dX12_step_176 : decode cX12_step 176 = .ok (.ifCond .ge 7, 3) := by decide +kernel
theorem dX12_step_179 : decode cX12_step 179 = .ok (.iconst (-1), 1) := by decide +kernel
theorem dX12_step_180 : decode cX12_step 180 = .ok (.goto 15, 3) := by decide +kernel
theorem dX12_step_183 : decode cX12_step 183 = .ok (.lload 5, 2) := by decide +kernel
theorem dX12_step_185 : decode cX12_step 185 = .ok (.lconst 0, 1) := by decide +kernel
theorem dX12_step_186 : decode cX12_step 186 = .ok (.lcmp, 1) := by decide +kernel
theorem dX12_step_187 : decode cX12_step 187 = .ok (.ifCond .ge 7, 3) := by decide +kernel
theorem dX12_step_190 : decode cX12_step 190 = .ok (.iconst 1, 1) := by decide +kernel
theorem dX12_step_191 : decode cX12_step 191 = .ok (.goto 4, 3) := by decide +kernel
theorem dX12_step_194 : decode cX12_step 194 = .ok (.iconst 0, 1) := by decide +kernel
theorem dX12_step_195 : decode cX12_step 195 = .ok (.ireturn, 1) := by decide +kernel
theorem dX12_step_196 : decode cX12_step 196 = .ok (.lload_n 3, 1) := by decide +kernel
theorem dX12_step_197 : decode cX12_step 197 = .ok (.l2i, 1) := by decide +kernel
theorem dX12_step_198 : decode cX12_step 198 = .ok (.istore 8, 2) := by decide +kernel
theorem dX12_step_200 : decode cX12_step 200 = .ok (.lload 5, 2) := by decide +kernel
theorem dX12_step_202 : decode cX12_step 202 = .ok (.l2i, 1) := by decide +kernel
theorem dX12_step_203 : decode cX12_step 203 = .ok (.istore 9, 2) := by decide +kernel
theorem dX12_step_205 : decode cX12_step 205 = .ok (.aload_n 0, 1) := by decide +kernel
theorem dX12_step_206 : decode cX12_step 206 = .ok (.getfield 7, 3) := by decide +kernel
theorem dX12_step_209 : decode cX12_step 209 = .ok (.iload 8, 2) := by decide +kernel
theorem dX12_step_211 : decode cX12_step 211 = .ok (.iaload, 1) := by decide +kernel
theorem dX12_step_212 : decode cX12_step 212 = .ok (.aload_n 0, 1) := by decide +kernel
theorem dX12_step_213 : decode cX12_step 213 = .ok (.getfield 7, 3) := by decide +kernel
theorem dX12_step_216 : decode cX12_step 216 = .ok (.iload 9, 2) := by decide +kernel
theorem dX12_step_218 : decode cX12_step 218 = .ok (.iaload, 1) := by decide +kernel
theorem dX12_step_219 : decode cX12_step 219 = .ok (.if_icmp .eq 21, 3) := by decide +kernel
theorem dX12_step_222 : decode cX12_step 222 = .ok (.aload_n 0, 1) := by decide +kernel
theorem dX12_step_223 : decode cX12_step 223 = .ok (.getfield 7, 3) := by decide +kernel
theorem dX12_step_226 : decode cX12_step 226 = .ok (.iload 8, 2) := by decide +kernel
theorem dX12_step_228 : decode cX12_step 228 = .ok (.iaload, 1) := by decide +kernel
theorem dX12_step_229 : decode cX12_step 229 = .ok (.aload_n 0, 1) := by decide +kernel
theorem dX12_step_230 : decode cX12_step 230 = .ok (.getfield 7, 3) := by decide +kernel
theorem dX12_step_233 : decode cX12_step 233 = .ok (.iload 9, 2) := by decide +kernel
theorem dX12_step_235 : decode cX12_step 235 = .ok (.iaload, 1) := by decide +kernel
theorem dX12_step_236 : decode cX12_step 236 = .ok (.invokestatic 274, 3) := by decide +kernel
theorem dX12_step_239 : decode cX12_step 239 = .ok (.ireturn, 1) := by decide +kernel
theorem dX12_step_240 : decode cX12_step 240 = .ok (.aload_n 0, 1) := by decide +kernel
theorem dX12_step_241 : decode cX12_step 241 = .ok (.getfield 7, 3) := by decide +kernel
theorem dX12_step_244 : decode cX12_step 244 = .ok (.iload 8, 2) := by decide +kernel
theorem dX12_step_246 : decode cX12_step 246 = .ok (.iaload, 1) := by decide +kernel
theorem dX12_step_247 : decode cX12_step 247 = .ok (.bipush 8, 2) := by decide +kernel
theorem dX12_step_249 : decode cX12_step 249 = .ok (.if_icmp .eq 22, 3) := by decide +kernel
theorem dX12_step_252 : decode cX12_step 252 = .ok (.aload_n 0, 1) := by decide +kernel
theorem dX12_step_253 : decode cX12_step 253 = .ok (.getfield 96, 3) := by decide +kernel
theorem dX12_step_256 : decode cX12_step 256 = .ok (.iload_n 1, 1) := by decide +kernel
theorem dX12_step_257 : decode cX12_step 257 = .ok (.dup2, 1) := by decide +kernel
theorem dX12_step_258 : decode cX12_step 258 = .ok (.iaload, 1) := by decide +kernel
theorem dX12_step_259 : decode cX12_step 259 = .ok (.iconst 1, 1) := by decide +kernel
theorem dX12_step_260 : decode cX12_step 260 = .ok (.iadd, 1) := by decide +kernel
theorem dX12_step_261 : decode cX12_step 261 = .ok (.iastore, 1) := by decide +kernel
theorem dX12_step_262 : decode cX12_step 262 = .ok (.aload_n 0, 1) := by decide +kernel
theorem dX12_step_263 : decode cX12_step 263 = .ok (.iload 8, 2) := by decide +kernel
theorem dX12_step_265 : decode cX12_step 265 = .ok (.iload 9, 2) := by decide +kernel
theorem dX12_step_267 : decode cX12_step 267 = .ok (.invokevirtual 288, 3) := by decide +kernel
theorem dX12_step_270 : decode cX12_step 270 = .ok (.ireturn, 1) := by decide +kernel
theorem dX12_step_271 : decode cX12_step 271 = .ok (.aload_n 0, 1) := by decide +kernel
theorem dX12_step_272 : decode cX12_step 272 = .ok (.getfield 99, 3) := by decide +kernel
theorem dX12_step_275 : decode cX12_step 275 = .ok (.iload_n 1, 1) := by decide +kernel
theorem dX12_step_276 : decode cX12_step 276 = .ok (.dup2, 1) := by decide +kernel
theorem dX12_step_277 : decode cX12_step 277 = .ok (.iaload, 1) := by decide +kernel
theorem dX12_step_278 : decode cX12_step 278 = .ok (.iconst 1, 1) := by decide +kernel
theorem dX12_step_279 : decode cX12_step 279 = .ok (.iadd, 1) := by decide +kernel
theorem dX12_step_280 : decode cX12_step 280 = .ok (.iastore, 1) := by decide +kernel
theorem dX12_step_281 : decode cX12_step 281 = .ok (.aload_n 0, 1) := by decide +kernel
theorem dX12_step_282 : decode cX12_step 282 = .ok (.getfield 99, 3) := by decide +kernel
theorem dX12_step_285 : decode cX12_step 285 = .ok (.iload_n 1, 1) := by decide +kernel
theorem dX12_step_286 : decode cX12_step 286 = .ok (.iaload, 1) := by decide +kernel
theorem dX12_step_287 : decode cX12_step 287 = .ok (.istore 10, 2) := by decide +kernel
theorem dX12_step_289 : decode cX12_step 289 = .ok (.iload 10, 2) := by decide +kernel
theorem dX12_step_291 : decode cX12_step 291 = .ok (.aload_n 0, 1) := by decide +kernel
theorem dX12_step_292 : decode cX12_step 292 = .ok (.getfield 13, 3) := by decide +kernel
theorem dX12_step_295 : decode cX12_step 295 = .ok (.iload 8, 2) := by decide +kernel
theorem dX12_step_297 : decode cX12_step 297 = .ok (.iaload, 1) := by decide +kernel
theorem dX12_step_298 : decode cX12_step 298 = .ok (.if_icmp .ge 48, 3) := by decide +kernel
theorem dX12_step_301 : decode cX12_step 301 = .ok (.iload 10, 2) := by decide +kernel
theorem dX12_step_303 : decode cX12_step 303 = .ok (.aload_n 0, 1) := by decide +kernel
theorem dX12_step_304 : decode cX12_step 304 = .ok (.getfield 13, 3) := by decide +kernel
theorem dX12_step_307 : decode cX12_step 307 = .ok (.iload 9, 2) := by decide +kernel
theorem dX12_step_309 : decode cX12_step 309 = .ok (.iaload, 1) := by decide +kernel
theorem dX12_step_310 : decode cX12_step 310 = .ok (.if_icmp .ge 36, 3) := by decide +kernel
theorem dX12_step_313 : decode cX12_step 313 = .ok (.aload_n 0, 1) := by decide +kernel
theorem dX12_step_314 : decode cX12_step 314 = .ok (.aload_n 0, 1) := by decide +kernel
theorem dX12_step_315 : decode cX12_step 315 = .ok (.getfield 20, 3) := by decide +kernel
theorem dX12_step_318 : decode cX12_step 318 = .ok (.bipush 20, 2) := by decide +kernel
theorem dX12_step_320 : decode cX12_step 320 = .ok (.iload 8, 2) := by decide +kernel
theorem dX12_step_322 : decode cX12_step 322 = .ok (.imul, 1) := by decide +kernel
theorem dX12_step_323 : decode cX12_step 323 = .ok (.iload 10, 2) := by decide +kernel
theorem dX12_step_325 : decode cX12_step 325 = .ok (.iadd, 1) := by decide +kernel
theorem dX12_step_326 : decode cX12_step 326 = .ok (.laload, 1) := by decide +kernel
theorem dX12_step_327 : decode cX12_step 327 = .ok (.l2i, 1) := by decide +kernel
theorem dX12_step_328 : decode cX12_step 328 = .ok (.aload_n 0, 1) := by decide +kernel
theorem dX12_step_329 : decode cX12_step 329 = .ok (.getfield 20, 3) := by decide +kernel
theorem dX12_step_332 : decode cX12_step 332 = .ok (.bipush 20, 2) := by decide +kernel
theorem dX12_step_334 : decode cX12_step 334 = .ok (.iload 9, 2) := by decide +kernel
theorem dX12_step_336 : decode cX12_step 336 = .ok (.imul, 1) := by decide +kernel
theorem dX12_step_337 : decode cX12_step 337 = .ok (.iload 10, 2) := by decide +kernel
theorem dX12_step_339 : decode cX12_step 339 = .ok (.iadd, 1) := by decide +kernel
theorem dX12_step_340 : decode cX12_step 340 = .ok (.laload, 1) := by decide +kernel
theorem dX12_step_341 : decode cX12_step 341 = .ok (.l2i, 1) := by decide +kernel
theorem dX12_step_342 : decode cX12_step 342 = .ok (.invokevirtual 285, 3) := by decide +kernel
theorem dX12_step_345 : decode cX12_step 345 = .ok (.ireturn, 1) := by decide +kernel
theorem dX12_step_346 : decode cX12_step 346 = .ok (.aload_n 0, 1) := by decide +kernel
theorem dX12_step_347 : decode cX12_step 347 = .ok (.getfield 99, 3) := by decide +kernel
theorem dX12_step_350 : decode cX12_step 350 = .ok (.iload_n 1, 1) := by decide +kernel
theorem dX12_step_351 : decode cX12_step 351 = .ok (.iconst (-1), 1) := by decide +kernel
theorem dX12_step_352 : decode cX12_step 352 = .ok (.iastore, 1) := by decide +kernel
theorem dX12_step_353 : decode cX12_step 353 = .ok (.aload_n 0, 1) := by decide +kernel
theorem dX12_step_354 : decode cX12_step 354 = .ok (.getfield 96, 3) := by decide +kernel
theorem dX12_step_357 : decode cX12_step 357 = .ok (.iload_n 1, 1) := by decide +kernel
theorem dX12_step_358 : decode cX12_step 358 = .ok (.dup2, 1) := by decide +kernel
theorem dX12_step_359 : decode cX12_step 359 = .ok (.iaload, 1) := by decide +kernel
theorem dX12_step_360 : decode cX12_step 360 = .ok (.iconst 1, 1) := by decide +kernel
theorem dX12_step_361 : decode cX12_step 361 = .ok (.iadd, 1) := by decide +kernel
theorem dX12_step_362 : decode cX12_step 362 = .ok (.iastore, 1) := by decide +kernel
theorem dX12_step_363 : decode cX12_step 363 = .ok (.aload_n 0, 1) := by decide +kernel
theorem dX12_step_364 : decode cX12_step 364 = .ok (.getfield 13, 3) := by decide +kernel
theorem dX12_step_367 : decode cX12_step 367 = .ok (.iload 8, 2) := by decide +kernel
theorem dX12_step_369 : decode cX12_step 369 = .ok (.iaload, 1) := by decide +kernel
theorem dX12_step_370 : decode cX12_step 370 = .ok (.aload_n 0, 1) := by decide +kernel
theorem dX12_step_371 : decode cX12_step 371 = .ok (.getfield 13, 3) := by decide +kernel
theorem dX12_step_374 : decode cX12_step 374 = .ok (.iload 9, 2) := by decide +kernel
theorem dX12_step_376 : decode cX12_step 376 = .ok (.iaload, 1) := by decide +kernel
theorem dX12_step_377 : decode cX12_step 377 = .ok (.invokestatic 274, 3) := by decide +kernel
theorem dX12_step_380 : decode cX12_step 380 = .ok (.ireturn, 1) := by decide +kernel
def F_X12_step_346 (d : Nat) (v0 : Option Nm) (v1 : Int32) (v8 : Int32) (v9 : Int32) (h : MH) (u : Nat) (Q : Int32 → MH → Prop) : Prop :=
  gR h v0 11 39 fun x1 =>
  sV .int h x1 v1 (jI (-1)) fun h =>
  gR h v0 11 38 fun x2 =>
  aI .int h x2 v1 fun x3 =>
  sV .int h x2 v1 (jI (x3 + 1)) fun h =>
  gR h v0 11 5 fun x4 =>
  aI .int h x4 v8 fun x5 =>
  gR h v0 11 5 fun x6 =>
  aI .int h x6 v9 fun x7 =>
  F_X12_sign (d + 2) x5 x7 h 0 fun x8 h =>
  Q x8 h
set_option maxRecDepth 20000 in
theorem E_X12_step_346 {d : Nat} {v0 : Option Nm} {v1 : Int32} {v8 : Int32} {v9 : Int32} {h : MH} {u : Nat} {Q : Int32 → MH → Prop} (H : F_X12_step_346 d v0 v1 v8 v9 h u Q) : T u_X12_step (d + 3) 346 [some (jR v0), some (jI v1), none, none, none, none, none, none, some (jI v8), some (jI v9), none] [] h u (qI Q) := by
  unfold F_X12_step_346 at H
  refine T_aload_n (pc := 346) dX12_step_346 rfl rfl ?_
  refine T_gR (pc := 347) fa_X12_99 dX12_step_347 (gR_mono (fun x1 H => ?_) H)
  refine T_iload_n (pc := 350) dX12_step_350 rfl rfl ?_
  refine T_iconst (pc := 351) (v := (-1)) dX12_step_351 (by decide) ?_
  refine T_sI (pc := 352) dX12_step_352 (sV_mono (fun h H => ?_) H)
  refine T_aload_n (pc := 353) dX12_step_353 rfl rfl ?_
  refine T_gR (pc := 354) fa_X12_96 dX12_step_354 (gR_mono (fun x2 H => ?_) H)
  refine T_iload_n (pc := 357) dX12_step_357 rfl rfl ?_
  refine T_dup2 (pc := 358) rfl rfl dX12_step_358 ?_
  refine T_aI (pc := 359) dX12_step_359 (aI_mono (fun x3 H => ?_) H)
  refine T_iconst (pc := 360) (v := 1) dX12_step_360 (by decide) ?_
  refine T_iadd (pc := 361) dX12_step_361 ?_
  refine T_sI (pc := 362) dX12_step_362 (sV_mono (fun h H => ?_) H)
  refine T_aload_n (pc := 363) dX12_step_363 rfl rfl ?_
  refine T_gR (pc := 364) fa_X12_13 dX12_step_364 (gR_mono (fun x4 H => ?_) H)
  refine T_iload (pc := 367) dX12_step_367 rfl ?_
  refine T_aI (pc := 369) dX12_step_369 (aI_mono (fun x5 H => ?_) H)
  refine T_aload_n (pc := 370) dX12_step_370 rfl rfl ?_
  refine T_gR (pc := 371) fa_X12_13 dX12_step_371 (gR_mono (fun x6 H => ?_) H)
  refine T_iload (pc := 374) dX12_step_374 rfl ?_
  refine T_aI (pc := 376) dX12_step_376 (aI_mono (fun x7 H => ?_) H)
  refine T_invS (pc := 377) (av := [jI x5, jI x7]) (rest := []) dX12_step_377 mf_X12_sign c_6_83 c_6_84 rfl (Nat.le_of_ble_eq_true rfl) rfl (iI_k (iI_m0 (fun x8 h H => ?_) (J_X12_sign (d := (d + 2)) H)))
  exact T_ireturn (pc := 380) rfl rfl dX12_step_380 H
def F_X12_step_115 (d : Nat) (v0 : Option Nm) (v1 : Int32) (v3 : Int64) (v5 : Int64) (v7 : Int32) (h : MH) (u : Nat) (Q : Int32 → MH → Prop) : Prop :=
  gR h v0 11 38 fun x1 =>
  aI .int h x1 v1 fun x2 =>
  sV .int h x1 v1 (jI (x2 + 1)) fun h =>
  if 8 ≤ v7 then
    if v7 = 8 then
      rc h v0 11 ∧ F_X12_meet (d + 1) v0 (v3.toInt32) (v5.toInt32) h 0 fun x3 h =>
      Q x3 h
    else
      if (lg_cmp v3 v5) = 0 then
        Q 0 h
      else
        if 0 ≤ (lg_cmp v3 0) then
          if 0 ≤ (lg_cmp v5 0) then
            Q 0 h
          else
            Q 1 h
        else
          Q (-1) h
  else
    F_X12_compared (d + 1) v7 v3 v5 h 0 fun x4 h =>
    Q x4 h
set_option maxRecDepth 20000 in
theorem E_X12_step_115 {d : Nat} {v0 : Option Nm} {v1 : Int32} {v3 : Int64} {v5 : Int64} {v7 : Int32} {h : MH} {u : Nat} {Q : Int32 → MH → Prop} (H : F_X12_step_115 d v0 v1 v3 v5 v7 h u Q) : T u_X12_step (d + 3) 115 [some (jR v0), some (jI v1), none, some (jL v3), none, some (jL v5), none, some (jI v7), none, none, none] [] h u (qI Q) := by
  unfold F_X12_step_115 at H
  refine T_aload_n (pc := 115) dX12_step_115 rfl rfl ?_
  refine T_gR (pc := 116) fa_X12_96 dX12_step_116 (gR_mono (fun x1 H => ?_) H)
  refine T_iload_n (pc := 119) dX12_step_119 rfl rfl ?_
  refine T_dup2 (pc := 120) rfl rfl dX12_step_120 ?_
  refine T_aI (pc := 121) dX12_step_121 (aI_mono (fun x2 H => ?_) H)
  refine T_iconst (pc := 122) (v := 1) dX12_step_122 (by decide) ?_
  refine T_iadd (pc := 123) dX12_step_123 ?_
  refine T_sI (pc := 124) dX12_step_124 (sV_mono (fun h H => ?_) H)
  refine T_iload (pc := 125) dX12_step_125 rfl ?_
  refine T_bipush (pc := 127) (v := 8) dX12_step_127 (by decide) ?_
  refine T_icmp_ge (pc := 129) (tgt := 143) dX12_step_129 (by decide) (fun hc => ?_) (fun hc => ?_)
  · rw [if_pos hc] at H
    refine T_iload (pc := 143) dX12_step_143 rfl ?_
    refine T_bipush (pc := 145) (v := 8) dX12_step_145 (by decide) ?_
    refine T_icmp_ne (pc := 147) (tgt := 162) dX12_step_147 (by decide) (fun hc => ?_) (fun hc => ?_)
    · rw [if_neg hc] at H
      refine T_lload_n (pc := 162) dX12_step_162 rfl rfl ?_
      refine T_lload (pc := 163) dX12_step_163 rfl ?_
      refine T_lcmp (pc := 165) dX12_step_165 ?_
      refine T_if_ne (pc := 166) (tgt := 173) dX12_step_166 (by decide) (fun hc => ?_) (fun hc => ?_)
      · rw [if_neg hc] at H
        refine T_lload_n (pc := 173) dX12_step_173 rfl rfl ?_
        refine T_lconst (pc := 174) (v := 0) dX12_step_174 (by decide) ?_
        refine T_lcmp (pc := 175) dX12_step_175 ?_
        refine T_if_ge (pc := 176) (tgt := 183) dX12_step_176 (by decide) (fun hc => ?_) (fun hc => ?_)
        · rw [if_pos hc] at H
          refine T_lload (pc := 183) dX12_step_183 rfl ?_
          refine T_lconst (pc := 185) (v := 0) dX12_step_185 (by decide) ?_
          refine T_lcmp (pc := 186) dX12_step_186 ?_
          refine T_if_ge (pc := 187) (tgt := 194) dX12_step_187 (by decide) (fun hc => ?_) (fun hc => ?_)
          · rw [if_pos hc] at H
            refine T_iconst (pc := 194) (v := 0) dX12_step_194 (by decide) ?_
            exact T_ireturn (pc := 195) rfl rfl dX12_step_195 H
          · rw [if_neg hc] at H
            refine T_iconst (pc := 190) (v := 1) dX12_step_190 (by decide) ?_
            refine T_goto (pc := 191) (tgt := 195) dX12_step_191 (by decide) ?_
            exact T_ireturn (pc := 195) rfl rfl dX12_step_195 H
        · rw [if_neg hc] at H
          refine T_iconst (pc := 179) (v := (-1)) dX12_step_179 (by decide) ?_
          refine T_goto (pc := 180) (tgt := 195) dX12_step_180 (by decide) ?_
          exact T_ireturn (pc := 195) rfl rfl dX12_step_195 H
      · rw [if_pos hc] at H
        refine T_iconst (pc := 169) (v := 0) dX12_step_169 (by decide) ?_
        refine T_goto (pc := 170) (tgt := 195) dX12_step_170 (by decide) ?_
        exact T_ireturn (pc := 195) rfl rfl dX12_step_195 H
    · rw [if_pos hc] at H
      refine T_aload_n (pc := 150) dX12_step_150 rfl rfl ?_
      refine T_lload_n (pc := 151) dX12_step_151 rfl rfl ?_
      refine T_l2i (pc := 152) dX12_step_152 ?_
      refine T_lload (pc := 153) dX12_step_153 rfl ?_
      refine T_l2i (pc := 155) dX12_step_155 ?_
      obtain ⟨H0, H⟩ := H
      refine T_iV (pc := 156) (ci := 11) (av := [jI (v3.toInt32), jI (v5.toInt32)]) (rest := []) (o := v0) dX12_step_156 mf_X12_meet c_6_79 c_6_81 pr_X12_meet rfl rfl (Nat.le_of_ble_eq_true rfl) rfl H0 (iI_k (iI_m0 (fun x3 h H => ?_) (J_X12_meet (d := (d + 1)) H)))
      refine T_goto (pc := 159) (tgt := 195) dX12_step_159 (by decide) ?_
      exact T_ireturn (pc := 195) rfl rfl dX12_step_195 H
  · rw [if_neg hc] at H
    refine T_iload (pc := 132) dX12_step_132 rfl ?_
    refine T_lload_n (pc := 134) dX12_step_134 rfl rfl ?_
    refine T_lload (pc := 135) dX12_step_135 rfl ?_
    refine T_invS (pc := 137) (av := [jI v7, jL v3, jL v5]) (rest := []) dX12_step_137 mf_X12_compared c_6_94 c_6_95 rfl (Nat.le_of_ble_eq_true rfl) rfl (iI_k (iI_m0 (fun x4 h H => ?_) (J_X12_compared (d := (d + 1)) H)))
    refine T_goto (pc := 140) (tgt := 195) dX12_step_140 (by decide) ?_
    exact T_ireturn (pc := 195) rfl rfl dX12_step_195 H
def F_X12_step (d : Nat) (v0 : Option Nm) (h : MH) (u : Nat) (Q : Int32 → MH → Prop) : Prop :=
  gI h v0 11 35 fun x1 =>
  gR h v0 11 38 fun x2 =>
  aI .int h x2 (x1 - 1) fun x3 =>
  gR h v0 11 36 fun x4 =>
  aI .int h x4 (x1 - 1) fun x5 =>
  rc h v0 11 ∧ F_X12_partsOf (d + 1) v0 x5 h 0 fun x6 h =>
  if x3 = x6 then
    gI h v0 11 35 fun x45 =>
    pV h v0 11 35 (jI (x45 - 1)) fun h =>
    Q 0 h
  else
    gR h v0 11 31 fun x7 =>
    gR h v0 11 36 fun x8 =>
    aI .int h x8 (x1 - 1) fun x9 =>
    aL h x7 ((6 * x9) + x3) fun x10 =>
    gR h v0 11 31 fun x11 =>
    gR h v0 11 37 fun x12 =>
    aI .int h x12 (x1 - 1) fun x13 =>
    aL h x11 ((6 * x13) + x3) fun x14 =>
    gR h v0 11 36 fun x15 =>
    aI .int h x15 (x1 - 1) fun x16 =>
    rc h v0 11 ∧ F_X12_laneOf (d + 1) v0 x16 x3 h 0 fun x17 h =>
    if x17 = 9 then
      if (lg_cmp x10 0) < 0 then
        F_X12_step_115 d v0 (x1 - 1) x10 x14 x17 h u Q
      else
        if (lg_cmp x14 0) < 0 then
          F_X12_step_115 d v0 (x1 - 1) x10 x14 x17 h u Q
        else
          if (lg_cmp x10 x14) = 0 then
            F_X12_step_115 d v0 (x1 - 1) x10 x14 x17 h u Q
          else
            gR h v0 11 4 fun x18 =>
            aI .int h x18 (x10.toInt32) fun x19 =>
            gR h v0 11 4 fun x20 =>
            aI .int h x20 (x14.toInt32) fun x21 =>
            if x19 = x21 then
              gR h v0 11 4 fun x22 =>
              aI .int h x22 (x10.toInt32) fun x23 =>
              if x23 = 8 then
                gR h v0 11 39 fun x24 =>
                aI .int h x24 (x1 - 1) fun x25 =>
                sV .int h x24 (x1 - 1) (jI (x25 + 1)) fun h =>
                gR h v0 11 39 fun x26 =>
                aI .int h x26 (x1 - 1) fun x27 =>
                gR h v0 11 5 fun x28 =>
                aI .int h x28 (x10.toInt32) fun x29 =>
                if x29 ≤ x27 then
                  F_X12_step_346 d v0 (x1 - 1) (x10.toInt32) (x14.toInt32) h u Q
                else
                  gR h v0 11 5 fun x30 =>
                  aI .int h x30 (x14.toInt32) fun x31 =>
                  if x31 ≤ x27 then
                    F_X12_step_346 d v0 (x1 - 1) (x10.toInt32) (x14.toInt32) h u Q
                  else
                    gR h v0 11 7 fun x32 =>
                    aL h x32 ((20 * (x10.toInt32)) + x27) fun x33 =>
                    gR h v0 11 7 fun x34 =>
                    aL h x34 ((20 * (x14.toInt32)) + x27) fun x35 =>
                    rc h v0 11 ∧ F_X12_meet (d + 1) v0 (x33.toInt32) (x35.toInt32) h 0 fun x36 h =>
                    Q x36 h
              else
                gR h v0 11 38 fun x37 =>
                aI .int h x37 (x1 - 1) fun x38 =>
                sV .int h x37 (x1 - 1) (jI (x38 + 1)) fun h =>
                rc h v0 11 ∧ F_X12_numbers d v0 (x10.toInt32) (x14.toInt32) h 0 fun x39 h =>
                Q x39 h
            else
              gR h v0 11 4 fun x40 =>
              aI .int h x40 (x10.toInt32) fun x41 =>
              gR h v0 11 4 fun x42 =>
              aI .int h x42 (x14.toInt32) fun x43 =>
              F_X12_sign (d + 2) x41 x43 h 0 fun x44 h =>
              Q x44 h
    else
      F_X12_step_115 d v0 (x1 - 1) x10 x14 x17 h u Q
set_option maxRecDepth 20000 in
theorem E_X12_step {d : Nat} {v0 : Option Nm} {h : MH} {u : Nat} {Q : Int32 → MH → Prop} (H : F_X12_step d v0 h u Q) : T u_X12_step (d + 3) 0 [some (jR v0), none, none, none, none, none, none, none, none, none, none] [] h u (qI Q) := by
  unfold F_X12_step at H
  refine T_aload_n (pc := 0) dX12_step_0 rfl rfl ?_
  refine T_gI (pc := 1) fa_X12_271 dX12_step_1 (gI_mono (fun x1 H => ?_) H)
  refine T_iconst (pc := 4) (v := 1) dX12_step_4 (by decide) ?_
  refine T_isub (pc := 5) dX12_step_5 ?_
  refine T_istore_n (pc := 6) (ls2 := [some (jR v0), some (jI (x1 - 1)), none, none, none, none, none, none, none, none, none]) dX12_step_6 rfl (Nat.le_of_ble_eq_true rfl) rfl ?_
  refine T_aload_n (pc := 7) dX12_step_7 rfl rfl ?_
  refine T_gR (pc := 8) fa_X12_96 dX12_step_8 (gR_mono (fun x2 H => ?_) H)
  refine T_iload_n (pc := 11) dX12_step_11 rfl rfl ?_
  refine T_aI (pc := 12) dX12_step_12 (aI_mono (fun x3 H => ?_) H)
  refine T_istore_n (pc := 13) (ls2 := [some (jR v0), some (jI (x1 - 1)), some (jI x3), none, none, none, none, none, none, none, none]) dX12_step_13 rfl (Nat.le_of_ble_eq_true rfl) rfl ?_
  refine T_iload_n (pc := 14) dX12_step_14 rfl rfl ?_
  refine T_aload_n (pc := 15) dX12_step_15 rfl rfl ?_
  refine T_aload_n (pc := 16) dX12_step_16 rfl rfl ?_
  refine T_gR (pc := 17) fa_X12_90 dX12_step_17 (gR_mono (fun x4 H => ?_) H)
  refine T_iload_n (pc := 20) dX12_step_20 rfl rfl ?_
  refine T_aI (pc := 21) dX12_step_21 (aI_mono (fun x5 H => ?_) H)
  obtain ⟨H0, H⟩ := H
  refine T_iV (pc := 22) (ci := 11) (av := [jI x5]) (rest := [jI x3]) (o := v0) dX12_step_22 mf_X12_partsOf c_6_38 c_6_40 pr_X12_partsOf rfl rfl (Nat.le_of_ble_eq_true rfl) rfl H0 (iI_k (iI_m0 (fun x6 h H => ?_) (J_X12_partsOf (d := (d + 1)) H)))
  refine T_icmp_ne (pc := 25) (tgt := 40) dX12_step_25 (by decide) (fun hc => ?_) (fun hc => ?_)
  · rw [if_neg hc] at H
    refine T_aload_n (pc := 40) dX12_step_40 rfl rfl ?_
    refine T_gR (pc := 41) fa_X12_84 dX12_step_41 (gR_mono (fun x7 H => ?_) H)
    refine T_bipush (pc := 44) (v := 6) dX12_step_44 (by decide) ?_
    refine T_aload_n (pc := 46) dX12_step_46 rfl rfl ?_
    refine T_gR (pc := 47) fa_X12_90 dX12_step_47 (gR_mono (fun x8 H => ?_) H)
    refine T_iload_n (pc := 50) dX12_step_50 rfl rfl ?_
    refine T_aI (pc := 51) dX12_step_51 (aI_mono (fun x9 H => ?_) H)
    refine T_imul (pc := 52) dX12_step_52 ?_
    refine T_iload_n (pc := 53) dX12_step_53 rfl rfl ?_
    refine T_iadd (pc := 54) dX12_step_54 ?_
    refine T_aL (pc := 55) dX12_step_55 (aL_mono (fun x10 H => ?_) H)
    refine T_lstore_n (pc := 56) (ls2 := [some (jR v0), some (jI (x1 - 1)), some (jI x3), some (jL x10), none, none, none, none, none, none, none]) dX12_step_56 rfl (Nat.le_of_ble_eq_true rfl) rfl ?_
    refine T_aload_n (pc := 57) dX12_step_57 rfl rfl ?_
    refine T_gR (pc := 58) fa_X12_84 dX12_step_58 (gR_mono (fun x11 H => ?_) H)
    refine T_bipush (pc := 61) (v := 6) dX12_step_61 (by decide) ?_
    refine T_aload_n (pc := 63) dX12_step_63 rfl rfl ?_
    refine T_gR (pc := 64) fa_X12_93 dX12_step_64 (gR_mono (fun x12 H => ?_) H)
    refine T_iload_n (pc := 67) dX12_step_67 rfl rfl ?_
    refine T_aI (pc := 68) dX12_step_68 (aI_mono (fun x13 H => ?_) H)
    refine T_imul (pc := 69) dX12_step_69 ?_
    refine T_iload_n (pc := 70) dX12_step_70 rfl rfl ?_
    refine T_iadd (pc := 71) dX12_step_71 ?_
    refine T_aL (pc := 72) dX12_step_72 (aL_mono (fun x14 H => ?_) H)
    refine T_lstore (pc := 73) (ls2 := [some (jR v0), some (jI (x1 - 1)), some (jI x3), some (jL x10), none, some (jL x14), none, none, none, none, none]) dX12_step_73 (Nat.le_of_ble_eq_true rfl) rfl ?_
    refine T_aload_n (pc := 75) dX12_step_75 rfl rfl ?_
    refine T_aload_n (pc := 76) dX12_step_76 rfl rfl ?_
    refine T_gR (pc := 77) fa_X12_90 dX12_step_77 (gR_mono (fun x15 H => ?_) H)
    refine T_iload_n (pc := 80) dX12_step_80 rfl rfl ?_
    refine T_aI (pc := 81) dX12_step_81 (aI_mono (fun x16 H => ?_) H)
    refine T_iload_n (pc := 82) dX12_step_82 rfl rfl ?_
    obtain ⟨H0, H⟩ := H
    refine T_iV (pc := 83) (ci := 11) (av := [jI x16, jI x3]) (rest := []) (o := v0) dX12_step_83 mf_X12_laneOf c_6_50 c_6_52 pr_X12_laneOf rfl rfl (Nat.le_of_ble_eq_true rfl) rfl H0 (iI_k (iI_m0 (fun x17 h H => ?_) (J_X12_laneOf (d := (d + 1)) H)))
    refine T_istore (pc := 86) (ls2 := [some (jR v0), some (jI (x1 - 1)), some (jI x3), some (jL x10), none, some (jL x14), none, some (jI x17), none, none, none]) dX12_step_86 (Nat.le_of_ble_eq_true rfl) rfl ?_
    refine T_iload (pc := 88) dX12_step_88 rfl ?_
    refine T_bipush (pc := 90) (v := 9) dX12_step_90 (by decide) ?_
    refine T_icmp_ne (pc := 92) (tgt := 115) dX12_step_92 (by decide) (fun hc => ?_) (fun hc => ?_)
    · rw [if_neg hc] at H
      exact T.forget (E_X12_step_115 H) ⟨rfl, rfl, rfl, rfl, rfl, trivial⟩
    · rw [if_pos hc] at H
      refine T_lload_n (pc := 95) dX12_step_95 rfl rfl ?_
      refine T_lconst (pc := 96) (v := 0) dX12_step_96 (by decide) ?_
      refine T_lcmp (pc := 97) dX12_step_97 ?_
      refine T_if_lt (pc := 98) (tgt := 115) dX12_step_98 (by decide) (fun hc => ?_) (fun hc => ?_)
      · rw [if_pos hc] at H
        exact T.forget (E_X12_step_115 H) ⟨rfl, rfl, rfl, rfl, rfl, trivial⟩
      · rw [if_neg hc] at H
        refine T_lload (pc := 101) dX12_step_101 rfl ?_
        refine T_lconst (pc := 103) (v := 0) dX12_step_103 (by decide) ?_
        refine T_lcmp (pc := 104) dX12_step_104 ?_
        refine T_if_lt (pc := 105) (tgt := 115) dX12_step_105 (by decide) (fun hc => ?_) (fun hc => ?_)
        · rw [if_pos hc] at H
          exact T.forget (E_X12_step_115 H) ⟨rfl, rfl, rfl, rfl, rfl, trivial⟩
        · rw [if_neg hc] at H
          refine T_lload_n (pc := 108) dX12_step_108 rfl rfl ?_
          refine T_lload (pc := 109) dX12_step_109 rfl ?_
          refine T_lcmp (pc := 111) dX12_step_111 ?_
          refine T_if_ne (pc := 112) (tgt := 196) dX12_step_112 (by decide) (fun hc => ?_) (fun hc => ?_)
          · rw [if_neg hc] at H
            refine T_lload_n (pc := 196) dX12_step_196 rfl rfl ?_
            refine T_l2i (pc := 197) dX12_step_197 ?_
            refine T_istore (pc := 198) (ls2 := [some (jR v0), some (jI (x1 - 1)), some (jI x3), some (jL x10), none, some (jL x14), none, some (jI x17), some (jI (x10.toInt32)), none, none]) dX12_step_198 (Nat.le_of_ble_eq_true rfl) rfl ?_
            refine T_lload (pc := 200) dX12_step_200 rfl ?_
            refine T_l2i (pc := 202) dX12_step_202 ?_
            refine T_istore (pc := 203) (ls2 := [some (jR v0), some (jI (x1 - 1)), some (jI x3), some (jL x10), none, some (jL x14), none, some (jI x17), some (jI (x10.toInt32)), some (jI (x14.toInt32)), none]) dX12_step_203 (Nat.le_of_ble_eq_true rfl) rfl ?_
            refine T_aload_n (pc := 205) dX12_step_205 rfl rfl ?_
            refine T_gR (pc := 206) fa_X12_7 dX12_step_206 (gR_mono (fun x18 H => ?_) H)
            refine T_iload (pc := 209) dX12_step_209 rfl ?_
            refine T_aI (pc := 211) dX12_step_211 (aI_mono (fun x19 H => ?_) H)
            refine T_aload_n (pc := 212) dX12_step_212 rfl rfl ?_
            refine T_gR (pc := 213) fa_X12_7 dX12_step_213 (gR_mono (fun x20 H => ?_) H)
            refine T_iload (pc := 216) dX12_step_216 rfl ?_
            refine T_aI (pc := 218) dX12_step_218 (aI_mono (fun x21 H => ?_) H)
            refine T_icmp_eq (pc := 219) (tgt := 240) dX12_step_219 (by decide) (fun hc => ?_) (fun hc => ?_)
            · rw [if_pos hc] at H
              refine T_aload_n (pc := 240) dX12_step_240 rfl rfl ?_
              refine T_gR (pc := 241) fa_X12_7 dX12_step_241 (gR_mono (fun x22 H => ?_) H)
              refine T_iload (pc := 244) dX12_step_244 rfl ?_
              refine T_aI (pc := 246) dX12_step_246 (aI_mono (fun x23 H => ?_) H)
              refine T_bipush (pc := 247) (v := 8) dX12_step_247 (by decide) ?_
              refine T_icmp_eq (pc := 249) (tgt := 271) dX12_step_249 (by decide) (fun hc => ?_) (fun hc => ?_)
              · rw [if_pos hc] at H
                refine T_aload_n (pc := 271) dX12_step_271 rfl rfl ?_
                refine T_gR (pc := 272) fa_X12_99 dX12_step_272 (gR_mono (fun x24 H => ?_) H)
                refine T_iload_n (pc := 275) dX12_step_275 rfl rfl ?_
                refine T_dup2 (pc := 276) rfl rfl dX12_step_276 ?_
                refine T_aI (pc := 277) dX12_step_277 (aI_mono (fun x25 H => ?_) H)
                refine T_iconst (pc := 278) (v := 1) dX12_step_278 (by decide) ?_
                refine T_iadd (pc := 279) dX12_step_279 ?_
                refine T_sI (pc := 280) dX12_step_280 (sV_mono (fun h H => ?_) H)
                refine T_aload_n (pc := 281) dX12_step_281 rfl rfl ?_
                refine T_gR (pc := 282) fa_X12_99 dX12_step_282 (gR_mono (fun x26 H => ?_) H)
                refine T_iload_n (pc := 285) dX12_step_285 rfl rfl ?_
                refine T_aI (pc := 286) dX12_step_286 (aI_mono (fun x27 H => ?_) H)
                refine T_istore (pc := 287) (ls2 := [some (jR v0), some (jI (x1 - 1)), some (jI x3), some (jL x10), none, some (jL x14), none, some (jI x17), some (jI (x10.toInt32)), some (jI (x14.toInt32)), some (jI x27)]) dX12_step_287 (Nat.le_of_ble_eq_true rfl) rfl ?_
                refine T_iload (pc := 289) dX12_step_289 rfl ?_
                refine T_aload_n (pc := 291) dX12_step_291 rfl rfl ?_
                refine T_gR (pc := 292) fa_X12_13 dX12_step_292 (gR_mono (fun x28 H => ?_) H)
                refine T_iload (pc := 295) dX12_step_295 rfl ?_
                refine T_aI (pc := 297) dX12_step_297 (aI_mono (fun x29 H => ?_) H)
                refine T_icmp_ge (pc := 298) (tgt := 346) dX12_step_298 (by decide) (fun hc => ?_) (fun hc => ?_)
                · rw [if_pos hc] at H
                  exact T.forget (E_X12_step_346 H) ⟨rfl, rfl, rfl, rfl, trivial⟩
                · rw [if_neg hc] at H
                  refine T_iload (pc := 301) dX12_step_301 rfl ?_
                  refine T_aload_n (pc := 303) dX12_step_303 rfl rfl ?_
                  refine T_gR (pc := 304) fa_X12_13 dX12_step_304 (gR_mono (fun x30 H => ?_) H)
                  refine T_iload (pc := 307) dX12_step_307 rfl ?_
                  refine T_aI (pc := 309) dX12_step_309 (aI_mono (fun x31 H => ?_) H)
                  refine T_icmp_ge (pc := 310) (tgt := 346) dX12_step_310 (by decide) (fun hc => ?_) (fun hc => ?_)
                  · rw [if_pos hc] at H
                    exact T.forget (E_X12_step_346 H) ⟨rfl, rfl, rfl, rfl, trivial⟩
                  · rw [if_neg hc] at H
                    refine T_aload_n (pc := 313) dX12_step_313 rfl rfl ?_
                    refine T_aload_n (pc := 314) dX12_step_314 rfl rfl ?_
                    refine T_gR (pc := 315) fa_X12_20 dX12_step_315 (gR_mono (fun x32 H => ?_) H)
                    refine T_bipush (pc := 318) (v := 20) dX12_step_318 (by decide) ?_
                    refine T_iload (pc := 320) dX12_step_320 rfl ?_
                    refine T_imul (pc := 322) dX12_step_322 ?_
                    refine T_iload (pc := 323) dX12_step_323 rfl ?_
                    refine T_iadd (pc := 325) dX12_step_325 ?_
                    refine T_aL (pc := 326) dX12_step_326 (aL_mono (fun x33 H => ?_) H)
                    refine T_l2i (pc := 327) dX12_step_327 ?_
                    refine T_aload_n (pc := 328) dX12_step_328 rfl rfl ?_
                    refine T_gR (pc := 329) fa_X12_20 dX12_step_329 (gR_mono (fun x34 H => ?_) H)
                    refine T_bipush (pc := 332) (v := 20) dX12_step_332 (by decide) ?_
                    refine T_iload (pc := 334) dX12_step_334 rfl ?_
                    refine T_imul (pc := 336) dX12_step_336 ?_
                    refine T_iload (pc := 337) dX12_step_337 rfl ?_
                    refine T_iadd (pc := 339) dX12_step_339 ?_
                    refine T_aL (pc := 340) dX12_step_340 (aL_mono (fun x35 H => ?_) H)
                    refine T_l2i (pc := 341) dX12_step_341 ?_
                    obtain ⟨H0, H⟩ := H
                    refine T_iV (pc := 342) (ci := 11) (av := [jI (x33.toInt32), jI (x35.toInt32)]) (rest := []) (o := v0) dX12_step_342 mf_X12_meet c_6_79 c_6_81 pr_X12_meet rfl rfl (Nat.le_of_ble_eq_true rfl) rfl H0 (iI_k (iI_m0 (fun x36 h H => ?_) (J_X12_meet (d := (d + 1)) H)))
                    exact T_ireturn (pc := 345) rfl rfl dX12_step_345 H
              · rw [if_neg hc] at H
                refine T_aload_n (pc := 252) dX12_step_252 rfl rfl ?_
                refine T_gR (pc := 253) fa_X12_96 dX12_step_253 (gR_mono (fun x37 H => ?_) H)
                refine T_iload_n (pc := 256) dX12_step_256 rfl rfl ?_
                refine T_dup2 (pc := 257) rfl rfl dX12_step_257 ?_
                refine T_aI (pc := 258) dX12_step_258 (aI_mono (fun x38 H => ?_) H)
                refine T_iconst (pc := 259) (v := 1) dX12_step_259 (by decide) ?_
                refine T_iadd (pc := 260) dX12_step_260 ?_
                refine T_sI (pc := 261) dX12_step_261 (sV_mono (fun h H => ?_) H)
                refine T_aload_n (pc := 262) dX12_step_262 rfl rfl ?_
                refine T_iload (pc := 263) dX12_step_263 rfl ?_
                refine T_iload (pc := 265) dX12_step_265 rfl ?_
                obtain ⟨H0, H⟩ := H
                refine T_iV (pc := 267) (ci := 11) (av := [jI (x10.toInt32), jI (x14.toInt32)]) (rest := []) (o := v0) dX12_step_267 mf_X12_numbers c_6_100 c_6_102 pr_X12_numbers rfl rfl (Nat.le_of_ble_eq_true rfl) rfl H0 (iI_k (iI_m0 (fun x39 h H => ?_) (J_X12_numbers (d := d) H)))
                exact T_ireturn (pc := 270) rfl rfl dX12_step_270 H
            · rw [if_neg hc] at H
              refine T_aload_n (pc := 222) dX12_step_222 rfl rfl ?_
              refine T_gR (pc := 223) fa_X12_7 dX12_step_223 (gR_mono (fun x40 H => ?_) H)
              refine T_iload (pc := 226) dX12_step_226 rfl ?_
              refine T_aI (pc := 228) dX12_step_228 (aI_mono (fun x41 H => ?_) H)
              refine T_aload_n (pc := 229) dX12_step_229 rfl rfl ?_
              refine T_gR (pc := 230) fa_X12_7 dX12_step_230 (gR_mono (fun x42 H => ?_) H)
              refine T_iload (pc := 233) dX12_step_233 rfl ?_
              refine T_aI (pc := 235) dX12_step_235 (aI_mono (fun x43 H => ?_) H)
              refine T_invS (pc := 236) (av := [jI x41, jI x43]) (rest := []) dX12_step_236 mf_X12_sign c_6_83 c_6_84 rfl (Nat.le_of_ble_eq_true rfl) rfl (iI_k (iI_m0 (fun x44 h H => ?_) (J_X12_sign (d := (d + 2)) H)))
              exact T_ireturn (pc := 239) rfl rfl dX12_step_239 H
          · rw [if_pos hc] at H
            exact T.forget (E_X12_step_115 H) ⟨rfl, rfl, rfl, rfl, rfl, trivial⟩
  · rw [if_pos hc] at H
    refine T_aload_n (pc := 28) dX12_step_28 rfl rfl ?_
    refine T_dup (pc := 29) rfl dX12_step_29 ?_
    refine T_gI (pc := 30) fa_X12_271 dX12_step_30 (gI_mono (fun x45 H => ?_) H)
    refine T_iconst (pc := 33) (v := 1) dX12_step_33 (by decide) ?_
    refine T_isub (pc := 34) dX12_step_34 ?_
    refine T_pV (pc := 35) fa_X12_271 dX12_step_35 trivial (pV_mono (fun h H => ?_) H)
    refine T_iconst (pc := 38) (v := 0) dX12_step_38 (by decide) ?_
    exact T_ireturn (pc := 39) rfl rfl dX12_step_39 H
theorem I_X12_step {d : Nat} {v0 : Option Nm} {h : MH} {u : Nat} {K : Int32 → MH → Nat → Prop} (u1 : Nat) (hu : u1 ≤ u) (H : F_X12_step d v0 h u1 (fun x h2 => K x h2 (u - u1))) : iI (d + 3) u_X12_step [jR v0] h u K := inv.of u1 hu (Ct.of (by decide +kernel) rfl (Nat.le_of_ble_eq_true rfl) rfl (E_X12_step H))
theorem J_X12_step {d : Nat} {v0 : Option Nm} {h : MH} {u : Nat} {K : Int32 → MH → Prop} (H : F_X12_step d v0 h 0 K) : iI (d + 3) u_X12_step [jR v0] h u (fun x h2 u2 => K x h2 ∧ u2 = u) := jiI (by decide +kernel) rfl (Nat.le_of_ble_eq_true rfl) rfl (E_X12_step H)
theorem dX12_ordered_0 : decode cX12_ordered 0 = .ok (.aload_n 0, 1) := by decide +kernel
theorem dX12_ordered_1 : decode cX12_ordered 1 = .ok (.iconst 0, 1) := by decide +kernel
theorem dX12_ordered_2 : decode cX12_ordered 2 = .ok (.putfield 271, 3) := by decide +kernel
theorem dX12_ordered_5 : decode cX12_ordered 5 = .ok (.aload_n 0, 1) := by decide +kernel
theorem dX12_ordered_6 : decode cX12_ordered 6 = .ok (.iload_n 1, 1) := by decide +kernel
theorem dX12_ordered_7 : decode cX12_ordered 7 = .ok (.iload_n 2, 1) := by decide +kernel
theorem dX12_ordered_8 : decode cX12_ordered 8 = .ok (.invokevirtual 285, 3) := by decide +kernel
theorem dX12_ordered_11 : decode cX12_ordered 11 = .ok (.istore_n 3, 1) := by decide +kernel
theorem dX12_ordered_12 : decode cX12_ordered 12 = .ok (.iload_n 3, 1) := by decide +kernel
theorem dX12_ordered_13 : decode cX12_ordered 13 = .ok (.ifCond .ne 18, 3) := by decide +kernel
theorem dX12_ordered_16 : decode cX12_ordered 16 = .ok (.aload_n 0, 1) := by decide +kernel
theorem dX12_ordered_17 : decode cX12_ordered 17 = .ok (.getfield 271, 3) := by decide +kernel
theorem dX12_ordered_20 : decode cX12_ordered 20 = .ok (.ifCond .le 11, 3) := by decide +kernel
theorem dX12_ordered_23 : decode cX12_ordered 23 = .ok (.aload_n 0, 1) := by decide +kernel
theorem dX12_ordered_24 : decode cX12_ordered 24 = .ok (.invokevirtual 291, 3) := by decide +kernel
theorem dX12_ordered_27 : decode cX12_ordered 27 = .ok (.istore_n 3, 1) := by decide +kernel
theorem dX12_ordered_28 : decode cX12_ordered 28 = .ok (.goto (-16), 3) := by decide +kernel
theorem dX12_ordered_31 : decode cX12_ordered 31 = .ok (.iload_n 3, 1) := by decide +kernel
theorem dX12_ordered_32 : decode cX12_ordered 32 = .ok (.ireturn, 1) := by decide +kernel
def L_X12_ordered_12 (d : Nat) (v0 : Option Nm) (v3 : Int32) (h : MH) (u : Nat) (Q : Int32 → MH → Prop) : Prop := T u_X12_ordered (d + 4) 12 [some (jR v0), none, none, some (jI v3)] [] h u (qI Q)
def F_X12_ordered (d : Nat) (v0 : Option Nm) (v1 : Int32) (v2 : Int32) (h : MH) (u : Nat) (Q : Int32 → MH → Prop) : Prop :=
  pV h v0 11 35 (jI 0) fun h =>
  rc h v0 11 ∧ F_X12_meet (d + 2) v0 v1 v2 h 0 fun x1 h =>
  L_X12_ordered_12 d v0 x1 h u Q
set_option maxRecDepth 20000 in
theorem E_X12_ordered {d : Nat} {v0 : Option Nm} {v1 : Int32} {v2 : Int32} {h : MH} {u : Nat} {Q : Int32 → MH → Prop} (H : F_X12_ordered d v0 v1 v2 h u Q) : T u_X12_ordered (d + 4) 0 [some (jR v0), some (jI v1), some (jI v2), none] [] h u (qI Q) := by
  unfold F_X12_ordered at H
  refine T_aload_n (pc := 0) dX12_ordered_0 rfl rfl ?_
  refine T_iconst (pc := 1) (v := 0) dX12_ordered_1 (by decide) ?_
  refine T_pV (pc := 2) fa_X12_271 dX12_ordered_2 trivial (pV_mono (fun h H => ?_) H)
  refine T_aload_n (pc := 5) dX12_ordered_5 rfl rfl ?_
  refine T_iload_n (pc := 6) dX12_ordered_6 rfl rfl ?_
  refine T_iload_n (pc := 7) dX12_ordered_7 rfl rfl ?_
  obtain ⟨H0, H⟩ := H
  refine T_iV (pc := 8) (ci := 11) (av := [jI v1, jI v2]) (rest := []) (o := v0) dX12_ordered_8 mf_X12_meet c_6_79 c_6_81 pr_X12_meet rfl rfl (Nat.le_of_ble_eq_true rfl) rfl H0 (iI_k (iI_m0 (fun x1 h H => ?_) (J_X12_meet (d := (d + 2)) H)))
  refine T_istore_n (pc := 11) (ls2 := [some (jR v0), some (jI v1), some (jI v2), some (jI x1)]) dX12_ordered_11 rfl (Nat.le_of_ble_eq_true rfl) rfl ?_
  exact T.forget H ⟨rfl, rfl, trivial⟩
def F_X12_ordered_12 (d : Nat) (v0 : Option Nm) (v3 : Int32) (h : MH) (u : Nat) (Q : Int32 → MH → Prop) : Prop :=
  if v3 = 0 then
    gI h v0 11 35 fun x1 =>
    if x1 ≤ 0 then
      Q v3 h
    else
      rc h v0 11 ∧ F_X12_step d v0 h 0 fun x2 h =>
      L_X12_ordered_12 d v0 x2 h u Q
  else
    Q v3 h
set_option maxRecDepth 20000 in
theorem E_X12_ordered_12 {d : Nat} {v0 : Option Nm} {v3 : Int32} {h : MH} {u : Nat} {Q : Int32 → MH → Prop} (H : F_X12_ordered_12 d v0 v3 h u Q) : T u_X12_ordered (d + 4) 12 [some (jR v0), none, none, some (jI v3)] [] h u (qI Q) := by
  unfold F_X12_ordered_12 at H
  refine T_iload_n (pc := 12) dX12_ordered_12 rfl rfl ?_
  refine T_if_ne (pc := 13) (tgt := 31) dX12_ordered_13 (by decide) (fun hc => ?_) (fun hc => ?_)
  · rw [if_neg hc] at H
    refine T_iload_n (pc := 31) dX12_ordered_31 rfl rfl ?_
    exact T_ireturn (pc := 32) rfl rfl dX12_ordered_32 H
  · rw [if_pos hc] at H
    refine T_aload_n (pc := 16) dX12_ordered_16 rfl rfl ?_
    refine T_gI (pc := 17) fa_X12_271 dX12_ordered_17 (gI_mono (fun x1 H => ?_) H)
    refine T_if_le (pc := 20) (tgt := 31) dX12_ordered_20 (by decide) (fun hc => ?_) (fun hc => ?_)
    · rw [if_pos hc] at H
      refine T_iload_n (pc := 31) dX12_ordered_31 rfl rfl ?_
      exact T_ireturn (pc := 32) rfl rfl dX12_ordered_32 H
    · rw [if_neg hc] at H
      refine T_aload_n (pc := 23) dX12_ordered_23 rfl rfl ?_
      obtain ⟨H0, H⟩ := H
      refine T_iV (pc := 24) (ci := 11) (av := []) (rest := []) (o := v0) dX12_ordered_24 mf_X12_step c_6_90 c_6_92 pr_X12_step rfl rfl (Nat.le_of_ble_eq_true rfl) rfl H0 (iI_k (iI_m0 (fun x2 h H => ?_) (J_X12_step (d := d) H)))
      refine T_istore_n (pc := 27) (ls2 := [some (jR v0), none, none, some (jI x2)]) dX12_ordered_27 rfl (Nat.le_of_ble_eq_true rfl) rfl ?_
      refine T_goto (pc := 28) (tgt := 12) dX12_ordered_28 (by decide) ?_
      exact T.forget H ⟨rfl, rfl, trivial⟩
theorem I_X12_ordered {d : Nat} {v0 : Option Nm} {v1 : Int32} {v2 : Int32} {h : MH} {u : Nat} {K : Int32 → MH → Nat → Prop} (u1 : Nat) (hu : u1 ≤ u) (H : F_X12_ordered d v0 v1 v2 h u1 (fun x h2 => K x h2 (u - u1))) : iI (d + 4) u_X12_ordered [jR v0, jI v1, jI v2] h u K := inv.of u1 hu (Ct.of (by decide +kernel) rfl (Nat.le_of_ble_eq_true rfl) rfl (E_X12_ordered H))
theorem J_X12_ordered {d : Nat} {v0 : Option Nm} {v1 : Int32} {v2 : Int32} {h : MH} {u : Nat} {K : Int32 → MH → Prop} (H : F_X12_ordered d v0 v1 v2 h 0 K) : iI (d + 4) u_X12_ordered [jR v0, jI v1, jI v2] h u (fun x h2 u2 => K x h2 ∧ u2 = u) := jiI (by decide +kernel) rfl (Nat.le_of_ble_eq_true rfl) rfl (E_X12_ordered H)
theorem dX12_equal_0 : decode cX12_equal 0 = .ok (.aload_n 0, 1) := by decide +kernel
theorem dX12_equal_1 : decode cX12_equal 1 = .ok (.iload_n 1, 1) := by decide +kernel
theorem dX12_equal_2 : decode cX12_equal 2 = .ok (.invokevirtual 190, 3) := by decide +kernel
theorem dX12_equal_5 : decode cX12_equal 5 = .ok (.ifCond .eq 11, 3) := by decide +kernel
theorem dX12_equal_8 : decode cX12_equal 8 = .ok (.aload_n 0, 1) := by decide +kernel
theorem dX12_equal_9 : decode cX12_equal 9 = .ok (.iload_n 2, 1) := by decide +kernel
theorem dX12_equal_10 : decode cX12_equal 10 = .ok (.invokevirtual 190, 3) := by decide +kernel
theorem dX12_equal_13 : decode cX12_equal 13 = .ok (.ifCond .ne 5, 3) := by decide +kernel
theorem dX12_equal_16 : decode cX12_equal 16 = .ok (.iconst (-1), 1) := by decide +kernel
theorem dX12_equal_17 : decode cX12_equal 17 = .ok (.ireturn, 1) := by decide +kernel
theorem dX12_equal_18 : decode cX12_equal 18 = .ok (.aload_n 0, 1) := by decide +kernel
theorem dX12_equal_19 : decode cX12_equal 19 = .ok (.iload_n 1, 1) := by decide +kernel
theorem dX12_equal_20 : decode cX12_equal 20 = .ok (.iload_n 2, 1) := by decide +kernel
theorem dX12_equal_21 : decode cX12_equal 21 = .ok (.invokevirtual 295, 3) := by decide +kernel
theorem dX12_equal_24 : decode cX12_equal 24 = .ok (.ifCond .ne 7, 3) := by decide +kernel
theorem dX12_equal_27 : decode cX12_equal 27 = .ok (.iconst 1, 1) := by decide +kernel
theorem dX12_equal_28 : decode cX12_equal 28 = .ok (.goto 4, 3) := by decide +kernel
theorem dX12_equal_31 : decode cX12_equal 31 = .ok (.iconst 0, 1) := by decide +kernel
theorem dX12_equal_32 : decode cX12_equal 32 = .ok (.ireturn, 1) := by decide +kernel
def F_X12_equal (d : Nat) (v0 : Option Nm) (v1 : Int32) (v2 : Int32) (h : MH) (u : Nat) (Q : Int32 → MH → Prop) : Prop :=
  rc h v0 11 ∧ F_X12_isValue (d + 3) v0 v1 h 0 fun x1 h =>
  if x1 = 0 then
    Q (-1) h
  else
    rc h v0 11 ∧ F_X12_isValue (d + 3) v0 v2 h 0 fun x2 h =>
    if x2 = 0 then
      Q (-1) h
    else
      rc h v0 11 ∧ F_X12_ordered d v0 v1 v2 h 0 fun x3 h =>
      if x3 = 0 then
        Q 1 h
      else
        Q 0 h
set_option maxRecDepth 20000 in
theorem E_X12_equal {d : Nat} {v0 : Option Nm} {v1 : Int32} {v2 : Int32} {h : MH} {u : Nat} {Q : Int32 → MH → Prop} (H : F_X12_equal d v0 v1 v2 h u Q) : T u_X12_equal (d + 5) 0 [some (jR v0), some (jI v1), some (jI v2)] [] h u (qI Q) := by
  unfold F_X12_equal at H
  refine T_aload_n (pc := 0) dX12_equal_0 rfl rfl ?_
  refine T_iload_n (pc := 1) dX12_equal_1 rfl rfl ?_
  obtain ⟨H0, H⟩ := H
  refine T_iV (pc := 2) (ci := 11) (av := [jI v1]) (rest := []) (o := v0) dX12_equal_2 mf_X12_isValue c_5_155 c_5_157 pr_X12_isValue rfl rfl (Nat.le_of_ble_eq_true rfl) rfl H0 (iI_k (iI_m0 (fun x1 h H => ?_) (J_X12_isValue (d := (d + 3)) H)))
  refine T_if_eq (pc := 5) (tgt := 16) dX12_equal_5 (by decide) (fun hc => ?_) (fun hc => ?_)
  · rw [if_pos hc] at H
    refine T_iconst (pc := 16) (v := (-1)) dX12_equal_16 (by decide) ?_
    exact T_ireturn (pc := 17) rfl rfl dX12_equal_17 H
  · rw [if_neg hc] at H
    refine T_aload_n (pc := 8) dX12_equal_8 rfl rfl ?_
    refine T_iload_n (pc := 9) dX12_equal_9 rfl rfl ?_
    obtain ⟨H0, H⟩ := H
    refine T_iV (pc := 10) (ci := 11) (av := [jI v2]) (rest := []) (o := v0) dX12_equal_10 mf_X12_isValue c_5_155 c_5_157 pr_X12_isValue rfl rfl (Nat.le_of_ble_eq_true rfl) rfl H0 (iI_k (iI_m0 (fun x2 h H => ?_) (J_X12_isValue (d := (d + 3)) H)))
    refine T_if_ne (pc := 13) (tgt := 18) dX12_equal_13 (by decide) (fun hc => ?_) (fun hc => ?_)
    · rw [if_neg hc] at H
      refine T_aload_n (pc := 18) dX12_equal_18 rfl rfl ?_
      refine T_iload_n (pc := 19) dX12_equal_19 rfl rfl ?_
      refine T_iload_n (pc := 20) dX12_equal_20 rfl rfl ?_
      obtain ⟨H0, H⟩ := H
      refine T_iV (pc := 21) (ci := 11) (av := [jI v1, jI v2]) (rest := []) (o := v0) dX12_equal_21 mf_X12_ordered c_6_75 c_6_77 pr_X12_ordered rfl rfl (Nat.le_of_ble_eq_true rfl) rfl H0 (iI_k (iI_m0 (fun x3 h H => ?_) (J_X12_ordered (d := d) H)))
      refine T_if_ne (pc := 24) (tgt := 31) dX12_equal_24 (by decide) (fun hc => ?_) (fun hc => ?_)
      · rw [if_neg hc] at H
        refine T_iconst (pc := 31) (v := 0) dX12_equal_31 (by decide) ?_
        exact T_ireturn (pc := 32) rfl rfl dX12_equal_32 H
      · rw [if_pos hc] at H
        refine T_iconst (pc := 27) (v := 1) dX12_equal_27 (by decide) ?_
        refine T_goto (pc := 28) (tgt := 32) dX12_equal_28 (by decide) ?_
        exact T_ireturn (pc := 32) rfl rfl dX12_equal_32 H
    · rw [if_pos hc] at H
      refine T_iconst (pc := 16) (v := (-1)) dX12_equal_16 (by decide) ?_
      exact T_ireturn (pc := 17) rfl rfl dX12_equal_17 H
theorem I_X12_equal {d : Nat} {v0 : Option Nm} {v1 : Int32} {v2 : Int32} {h : MH} {u : Nat} {K : Int32 → MH → Nat → Prop} (u1 : Nat) (hu : u1 ≤ u) (H : F_X12_equal d v0 v1 v2 h u1 (fun x h2 => K x h2 (u - u1))) : iI (d + 5) u_X12_equal [jR v0, jI v1, jI v2] h u K := inv.of u1 hu (Ct.of (by decide +kernel) rfl (Nat.le_of_ble_eq_true rfl) rfl (E_X12_equal H))
theorem J_X12_equal {d : Nat} {v0 : Option Nm} {v1 : Int32} {v2 : Int32} {h : MH} {u : Nat} {K : Int32 → MH → Prop} (H : F_X12_equal d v0 v1 v2 h 0 K) : iI (d + 5) u_X12_equal [jR v0, jI v1, jI v2] h u (fun x h2 u2 => K x h2 ∧ u2 = u) := jiI (by decide +kernel) rfl (Nat.le_of_ble_eq_true rfl) rfl (E_X12_equal H)
theorem dX12_failsLong_0 : decode cX12_failsLong 0 = .ok (.aload_n 0, 1) := by decide +kernel
theorem dX12_failsLong_1 : decode cX12_failsLong 1 = .ok (.iload_n 1, 1) := by decide +kernel
theorem dX12_failsLong_2 : decode cX12_failsLong 2 = .ok (.putfield 117, 3) := by decide +kernel
theorem dX12_failsLong_5 : decode cX12_failsLong 5 = .ok (.aload_n 0, 1) := by decide +kernel
theorem dX12_failsLong_6 : decode cX12_failsLong 6 = .ok (.dup, 1) := by decide +kernel
theorem dX12_failsLong_7 : decode cX12_failsLong 7 = .ok (.getfield 121, 3) := by decide +kernel
theorem dX12_failsLong_10 : decode cX12_failsLong 10 = .ok (.iconst 1, 1) := by decide +kernel
theorem dX12_failsLong_11 : decode cX12_failsLong 11 = .ok (.iadd, 1) := by decide +kernel
theorem dX12_failsLong_12 : decode cX12_failsLong 12 = .ok (.putfield 121, 3) := by decide +kernel
theorem dX12_failsLong_15 : decode cX12_failsLong 15 = .ok (.invokestatic 124, 3) := by decide +kernel
theorem dX12_failsLong_18 : decode cX12_failsLong 18 = .ok (.lreturn, 1) := by decide +kernel
def F_X12_failsLong (d : Nat) (v0 : Option Nm) (v1 : Int32) (h : MH) (u : Nat) (Q : Int64 → MH → Prop) : Prop :=
  pV h v0 11 0 (jI v1) fun h =>
  gI h v0 11 1 fun x1 =>
  pV h v0 11 1 (jI (x1 + 1)) fun h =>
  F_X12_lost d  h 0 fun x2 h =>
  Q x2 h
set_option maxRecDepth 20000 in
theorem E_X12_failsLong {d : Nat} {v0 : Option Nm} {v1 : Int32} {h : MH} {u : Nat} {Q : Int64 → MH → Prop} (H : F_X12_failsLong d v0 v1 h u Q) : T u_X12_failsLong (d + 1) 0 [some (jR v0), some (jI v1)] [] h u (qL Q) := by
  unfold F_X12_failsLong at H
  refine T_aload_n (pc := 0) dX12_failsLong_0 rfl rfl ?_
  refine T_iload_n (pc := 1) dX12_failsLong_1 rfl rfl ?_
  refine T_pV (pc := 2) fa_X12_117 dX12_failsLong_2 trivial (pV_mono (fun h H => ?_) H)
  refine T_aload_n (pc := 5) dX12_failsLong_5 rfl rfl ?_
  refine T_dup (pc := 6) rfl dX12_failsLong_6 ?_
  refine T_gI (pc := 7) fa_X12_121 dX12_failsLong_7 (gI_mono (fun x1 H => ?_) H)
  refine T_iconst (pc := 10) (v := 1) dX12_failsLong_10 (by decide) ?_
  refine T_iadd (pc := 11) dX12_failsLong_11 ?_
  refine T_pV (pc := 12) fa_X12_121 dX12_failsLong_12 trivial (pV_mono (fun h H => ?_) H)
  refine T_invS (pc := 15) (av := []) (rest := []) dX12_failsLong_15 mf_X12_lost c_5_143 c_5_144 rfl (Nat.le_of_ble_eq_true rfl) rfl (iL_k (iL_m0 (fun x2 h H => ?_) (J_X12_lost (d := d) H)))
  exact T_lreturn (pc := 18) rfl dX12_failsLong_18 H
theorem I_X12_failsLong {d : Nat} {v0 : Option Nm} {v1 : Int32} {h : MH} {u : Nat} {K : Int64 → MH → Nat → Prop} (u1 : Nat) (hu : u1 ≤ u) (H : F_X12_failsLong d v0 v1 h u1 (fun x h2 => K x h2 (u - u1))) : iL (d + 1) u_X12_failsLong [jR v0, jI v1] h u K := inv.of u1 hu (Ct.of (by decide +kernel) rfl (Nat.le_of_ble_eq_true rfl) rfl (E_X12_failsLong H))
theorem J_X12_failsLong {d : Nat} {v0 : Option Nm} {v1 : Int32} {h : MH} {u : Nat} {K : Int64 → MH → Prop} (H : F_X12_failsLong d v0 v1 h 0 K) : iL (d + 1) u_X12_failsLong [jR v0, jI v1] h u (fun x h2 u2 => K x h2 ∧ u2 = u) := jiL (by decide +kernel) rfl (Nat.le_of_ble_eq_true rfl) rfl (E_X12_failsLong H)
theorem dX12_family_0 : decode cX12_family 0 = .ok (.iload_n 1, 1) := by decide +kernel
theorem dX12_family_1 : decode cX12_family 1 = .ok (.aload_n 0, 1) := by decide +kernel
theorem dX12_family_2 : decode cX12_family 2 = .ok (.getfield 199, 3) := by decide +kernel
theorem dX12_family_5 : decode cX12_family 5 = .ok (.iushr, 1) := by decide +kernel
theorem dX12_family_6 : decode cX12_family 6 = .ok (.ifCond .eq 6, 3) := by decide +kernel
theorem dX12_family_9 : decode cX12_family 9 = .ok (.bipush (-2), 2) := by decide +kernel
theorem dX12_family_11 : decode cX12_family 11 = .ok (.ireturn, 1) := by decide +kernel
theorem dX12_family_12 : decode cX12_family 12 = .ok (.aload_n 0, 1) := by decide +kernel
theorem dX12_family_13 : decode cX12_family 13 = .ok (.getfield 228, 3) := by decide +kernel
theorem dX12_family_16 : decode cX12_family 16 = .ok (.bipush 8, 2) := by decide +kernel
theorem dX12_family_18 : decode cX12_family 18 = .ok (.if_icmp .ne 6, 3) := by decide +kernel
theorem dX12_family_21 : decode cX12_family 21 = .ok (.bipush (-4), 2) := by decide +kernel
theorem dX12_family_23 : decode cX12_family 23 = .ok (.ireturn, 1) := by decide +kernel
theorem dX12_family_24 : decode cX12_family 24 = .ok (.aload_n 0, 1) := by decide +kernel
theorem dX12_family_25 : decode cX12_family 25 = .ok (.getfield 54, 3) := by decide +kernel
theorem dX12_family_28 : decode cX12_family 28 = .ok (.aload_n 0, 1) := by decide +kernel
theorem dX12_family_29 : decode cX12_family 29 = .ok (.getfield 228, 3) := by decide +kernel
theorem dX12_family_32 : decode cX12_family 32 = .ok (.iload_n 1, 1) := by decide +kernel
theorem dX12_family_33 : decode cX12_family 33 = .ok (.iastore, 1) := by decide +kernel
theorem dX12_family_34 : decode cX12_family 34 = .ok (.aload_n 0, 1) := by decide +kernel
theorem dX12_family_35 : decode cX12_family 35 = .ok (.getfield 57, 3) := by decide +kernel
theorem dX12_family_38 : decode cX12_family 38 = .ok (.aload_n 0, 1) := by decide +kernel
theorem dX12_family_39 : decode cX12_family 39 = .ok (.getfield 228, 3) := by decide +kernel
theorem dX12_family_42 : decode cX12_family 42 = .ok (.iload_n 2, 1) := by decide +kernel
theorem dX12_family_43 : decode cX12_family 43 = .ok (.bastore, 1) := by decide +kernel
theorem dX12_family_44 : decode cX12_family 44 = .ok (.aload_n 0, 1) := by decide +kernel
theorem dX12_family_45 : decode cX12_family 45 = .ok (.dup, 1) := by decide +kernel
theorem dX12_family_46 : decode cX12_family 46 = .ok (.getfield 228, 3) := by decide +kernel
theorem dX12_family_49 : decode cX12_family 49 = .ok (.iconst 1, 1) := by decide +kernel
theorem dX12_family_50 : decode cX12_family 50 = .ok (.iadd, 1) := by decide +kernel
theorem dX12_family_51 : decode cX12_family 51 = .ok (.putfield 228, 3) := by decide +kernel
theorem dX12_family_54 : decode cX12_family 54 = .ok (.aload_n 0, 1) := by decide +kernel
theorem dX12_family_55 : decode cX12_family 55 = .ok (.getfield 228, 3) := by decide +kernel
theorem dX12_family_58 : decode cX12_family 58 = .ok (.iconst 1, 1) := by decide +kernel
theorem dX12_family_59 : decode cX12_family 59 = .ok (.isub, 1) := by decide +kernel
theorem dX12_family_60 : decode cX12_family 60 = .ok (.ireturn, 1) := by decide +kernel
def F_X12_family (d : Nat) (v0 : Option Nm) (v1 : Int32) (v2 : Int32) (h : MH) (u : Nat) (Q : Int32 → MH → Prop) : Prop :=
  gI h v0 11 9 fun x1 =>
  if ((v1.toUInt32 >>> (x1.toUInt32 &&& Int32.toUInt32 31)).toInt32) = 0 then
    gI h v0 11 19 fun x2 =>
    if x2 = 8 then
      Q (-4) h
    else
      gR h v0 11 20 fun x3 =>
      gI h v0 11 19 fun x4 =>
      sV .int h x3 x4 (jI v1) fun h =>
      gR h v0 11 21 fun x5 =>
      gI h v0 11 19 fun x6 =>
      sV .boolean h x5 x6 (jI (vp_nar .boolean v2)) fun h =>
      gI h v0 11 19 fun x7 =>
      pV h v0 11 19 (jI (x7 + 1)) fun h =>
      gI h v0 11 19 fun x8 =>
      Q (x8 - 1) h
  else
    Q (-2) h
set_option maxRecDepth 20000 in
theorem E_X12_family {d : Nat} {v0 : Option Nm} {v1 : Int32} {v2 : Int32} {h : MH} {u : Nat} {Q : Int32 → MH → Prop} (H : F_X12_family d v0 v1 v2 h u Q) : T u_X12_family d 0 [some (jR v0), some (jI v1), some (jI v2)] [] h u (qI Q) := by
  unfold F_X12_family at H
  refine T_iload_n (pc := 0) dX12_family_0 rfl rfl ?_
  refine T_aload_n (pc := 1) dX12_family_1 rfl rfl ?_
  refine T_gI (pc := 2) fa_X12_199 dX12_family_2 (gI_mono (fun x1 H => ?_) H)
  refine T_iushr (pc := 5) dX12_family_5 ?_
  refine T_if_eq (pc := 6) (tgt := 12) dX12_family_6 (by decide) (fun hc => ?_) (fun hc => ?_)
  · rw [if_pos hc] at H
    refine T_aload_n (pc := 12) dX12_family_12 rfl rfl ?_
    refine T_gI (pc := 13) fa_X12_228 dX12_family_13 (gI_mono (fun x2 H => ?_) H)
    refine T_bipush (pc := 16) (v := 8) dX12_family_16 (by decide) ?_
    refine T_icmp_ne (pc := 18) (tgt := 24) dX12_family_18 (by decide) (fun hc => ?_) (fun hc => ?_)
    · rw [if_neg hc] at H
      refine T_aload_n (pc := 24) dX12_family_24 rfl rfl ?_
      refine T_gR (pc := 25) fa_X12_54 dX12_family_25 (gR_mono (fun x3 H => ?_) H)
      refine T_aload_n (pc := 28) dX12_family_28 rfl rfl ?_
      refine T_gI (pc := 29) fa_X12_228 dX12_family_29 (gI_mono (fun x4 H => ?_) H)
      refine T_iload_n (pc := 32) dX12_family_32 rfl rfl ?_
      refine T_sI (pc := 33) dX12_family_33 (sV_mono (fun h H => ?_) H)
      refine T_aload_n (pc := 34) dX12_family_34 rfl rfl ?_
      refine T_gR (pc := 35) fa_X12_57 dX12_family_35 (gR_mono (fun x5 H => ?_) H)
      refine T_aload_n (pc := 38) dX12_family_38 rfl rfl ?_
      refine T_gI (pc := 39) fa_X12_228 dX12_family_39 (gI_mono (fun x6 H => ?_) H)
      refine T_iload_n (pc := 42) dX12_family_42 rfl rfl ?_
      refine T_sZ (pc := 43) dX12_family_43 (sV_mono (fun h H => ?_) H)
      refine T_aload_n (pc := 44) dX12_family_44 rfl rfl ?_
      refine T_dup (pc := 45) rfl dX12_family_45 ?_
      refine T_gI (pc := 46) fa_X12_228 dX12_family_46 (gI_mono (fun x7 H => ?_) H)
      refine T_iconst (pc := 49) (v := 1) dX12_family_49 (by decide) ?_
      refine T_iadd (pc := 50) dX12_family_50 ?_
      refine T_pV (pc := 51) fa_X12_228 dX12_family_51 trivial (pV_mono (fun h H => ?_) H)
      refine T_aload_n (pc := 54) dX12_family_54 rfl rfl ?_
      refine T_gI (pc := 55) fa_X12_228 dX12_family_55 (gI_mono (fun x8 H => ?_) H)
      refine T_iconst (pc := 58) (v := 1) dX12_family_58 (by decide) ?_
      refine T_isub (pc := 59) dX12_family_59 ?_
      exact T_ireturn (pc := 60) rfl rfl dX12_family_60 H
    · rw [if_pos hc] at H
      refine T_bipush (pc := 21) (v := (-4)) dX12_family_21 (by decide) ?_
      exact T_ireturn (pc := 23) rfl rfl dX12_family_23 H
  · rw [if_neg hc] at H
    refine T_bipush (pc := 9) (v := (-2)) dX12_family_9 (by decide) ?_
    exact T_ireturn (pc := 11) rfl rfl dX12_family_11 H
theorem I_X12_family {d : Nat} {v0 : Option Nm} {v1 : Int32} {v2 : Int32} {h : MH} {u : Nat} {K : Int32 → MH → Nat → Prop} (u1 : Nat) (hu : u1 ≤ u) (H : F_X12_family d v0 v1 v2 h u1 (fun x h2 => K x h2 (u - u1))) : iI d u_X12_family [jR v0, jI v1, jI v2] h u K := inv.of u1 hu (Ct.of (by decide +kernel) rfl (Nat.le_of_ble_eq_true rfl) rfl (E_X12_family H))
theorem J_X12_family {d : Nat} {v0 : Option Nm} {v1 : Int32} {v2 : Int32} {h : MH} {u : Nat} {K : Int32 → MH → Prop} (H : F_X12_family d v0 v1 v2 h 0 K) : iI d u_X12_family [jR v0, jI v1, jI v2] h u (fun x h2 u2 => K x h2 ∧ u2 = u) := jiI (by decide +kernel) rfl (Nat.le_of_ble_eq_true rfl) rfl (E_X12_family H)
