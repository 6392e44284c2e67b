theorem dX1_init_0 : decode cX1_init 0 = .ok (.aload_n 0, 1) := by decide +kernel
theorem dX1_init_1 : decode cX1_init 1 = .ok (.invokespecial 3, 3) := by decide +kernel
theorem dX1_init_4 : decode cX1_init 4 = .ok (.aload_n 0, 1) := by decide +kernel
theorem dX1_init_5 : decode cX1_init 5 = .ok (.aload_n 1, 1) := by decide +kernel
theorem dX1_init_6 : decode cX1_init 6 = .ok (.putfield 9, 3) := by decide +kernel
theorem dX1_init_9 : decode cX1_init 9 = .ok (.aload_n 0, 1) := by decide +kernel
theorem dX1_init_10 : decode cX1_init 10 = .ok (.bipush 6, 2) := by decide +kernel
theorem dX1_init_12 : decode cX1_init 12 = .ok (.newarray .long, 2) := by decide +kernel
theorem dX1_init_14 : decode cX1_init 14 = .ok (.putfield 15, 3) := by decide +kernel
theorem dX1_init_17 : decode cX1_init 17 = .ok (.return_, 1) := by decide +kernel
def F_X1_init (d : Nat) (v0 : Option Nm) (v1 : Option Nm) (h : MH) (u : Nat) (Q : MH → Prop) : Prop :=
  nn v0 <|
  pV h v0 1 0 (jR v1) fun h =>
  nA .long h u 6 fun x1 h u =>
  pV h v0 1 1 (jR (some x1)) fun h =>
  Q h
set_option maxRecDepth 20000 in
theorem E_X1_init {d : Nat} {v0 : Option Nm} {v1 : Option Nm} {h : MH} {u : Nat} {Q : MH → Prop} (H : F_X1_init d v0 v1 h u Q) : T u_X1_init (d + 1) 0 [some (jR v0), some (jR v1)] [] h u (qV Q) := by
  unfold F_X1_init at H
  refine T_aload_n (pc := 0) dX1_init_0 rfl rfl ?_
  obtain ⟨n0, H0, H⟩ := nn_out H
  refine T_objInit (pc := 1) dX1_init_1 c_1_72 c_1_25 c_1_26 H0 (Nat.le_of_ble_eq_true rfl) ?_
  refine T_aload_n (pc := 4) dX1_init_4 rfl rfl ?_
  refine T_aload_n (pc := 5) dX1_init_5 rfl rfl ?_
  refine T_pVF (pc := 6) fa_X1_9 rfl rfl dX1_init_6 trivial (pV_mono (fun h H => ?_) H)
  refine T_aload_n (pc := 9) dX1_init_9 rfl rfl ?_
  refine T_bipush (pc := 10) (v := 6) dX1_init_10 (by decide) ?_
  refine T_nA (pc := 12) dX1_init_12 rfl (by decide) c_1_66 (nA_mono (fun x1 h u H => ?_) H)
  refine T_pVF (pc := 14) fa_X1_15 rfl rfl dX1_init_14 trivial (pV_mono (fun h H => ?_) H)
  exact T_return (pc := 17) rfl dX1_init_17 H
theorem I_X1_init {d : Nat} {v0 : Option Nm} {v1 : Option Nm} {h : MH} {u : Nat} {K : MH → Nat → Prop} (u1 : Nat) (hu : u1 ≤ u) (H : F_X1_init d v0 v1 h u1 (fun h2 => K h2 (u - u1))) : iV (d + 1) u_X1_init [jR v0, jR v1] h u K := inv.of u1 hu (Ct.of (by decide +kernel) rfl (Nat.le_of_ble_eq_true rfl) rfl (E_X1_init H))
theorem dX1_takeTray_0 : decode cX1_takeTray 0 = .ok (.iconst 0, 1) := by decide +kernel
theorem dX1_takeTray_1 : decode cX1_takeTray 1 = .ok (.istore_n 3, 1) := by decide +kernel
theorem dX1_takeTray_2 : decode cX1_takeTray 2 = .ok (.iload_n 3, 1) := by decide +kernel
theorem dX1_takeTray_3 : decode cX1_takeTray 3 = .ok (.aload_n 2, 1) := by decide +kernel
theorem dX1_takeTray_4 : decode cX1_takeTray 4 = .ok (.getfield 19, 3) := by decide +kernel
theorem dX1_takeTray_7 : decode cX1_takeTray 7 = .ok (.if_icmp .ge 47, 3) := by decide +kernel
theorem dX1_takeTray_10 : decode cX1_takeTray 10 = .ok (.aload_n 1, 1) := by decide +kernel
theorem dX1_takeTray_11 : decode cX1_takeTray 11 = .ok (.iload_n 3, 1) := by decide +kernel
theorem dX1_takeTray_12 : decode cX1_takeTray 12 = .ok (.aload_n 2, 1) := by decide +kernel
theorem dX1_takeTray_13 : decode cX1_takeTray 13 = .ok (.getfield 25, 3) := by decide +kernel
theorem dX1_takeTray_16 : decode cX1_takeTray 16 = .ok (.iload_n 3, 1) := by decide +kernel
theorem dX1_takeTray_17 : decode cX1_takeTray 17 = .ok (.iaload, 1) := by decide +kernel
theorem dX1_takeTray_18 : decode cX1_takeTray 18 = .ok (.invokevirtual 29, 3) := by decide +kernel
theorem dX1_takeTray_21 : decode cX1_takeTray 21 = .ok (.istore 4, 2) := by decide +kernel
theorem dX1_takeTray_23 : decode cX1_takeTray 23 = .ok (.iload 4, 2) := by decide +kernel
theorem dX1_takeTray_25 : decode cX1_takeTray 25 = .ok (.ifCond .eq 6, 3) := by decide +kernel
theorem dX1_takeTray_28 : decode cX1_takeTray 28 = .ok (.iload 4, 2) := by decide +kernel
theorem dX1_takeTray_30 : decode cX1_takeTray 30 = .ok (.ireturn, 1) := by decide +kernel
theorem dX1_takeTray_31 : decode cX1_takeTray 31 = .ok (.aload_n 0, 1) := by decide +kernel
theorem dX1_takeTray_32 : decode cX1_takeTray 32 = .ok (.getfield 15, 3) := by decide +kernel
theorem dX1_takeTray_35 : decode cX1_takeTray 35 = .ok (.iload_n 3, 1) := by decide +kernel
theorem dX1_takeTray_36 : decode cX1_takeTray 36 = .ok (.aload_n 1, 1) := by decide +kernel
theorem dX1_takeTray_37 : decode cX1_takeTray 37 = .ok (.iload_n 3, 1) := by decide +kernel
theorem dX1_takeTray_38 : decode cX1_takeTray 38 = .ok (.aload_n 2, 1) := by decide +kernel
theorem dX1_takeTray_39 : decode cX1_takeTray 39 = .ok (.getfield 25, 3) := by decide +kernel
theorem dX1_takeTray_42 : decode cX1_takeTray 42 = .ok (.iload_n 3, 1) := by decide +kernel
theorem dX1_takeTray_43 : decode cX1_takeTray 43 = .ok (.iaload, 1) := by decide +kernel
theorem dX1_takeTray_44 : decode cX1_takeTray 44 = .ok (.invokevirtual 35, 3) := by decide +kernel
theorem dX1_takeTray_47 : decode cX1_takeTray 47 = .ok (.lastore, 1) := by decide +kernel
theorem dX1_takeTray_48 : decode cX1_takeTray 48 = .ok (.iinc 3 1, 3) := by decide +kernel
theorem dX1_takeTray_51 : decode cX1_takeTray 51 = .ok (.goto (-49), 3) := by decide +kernel
theorem dX1_takeTray_54 : decode cX1_takeTray 54 = .ok (.iconst 0, 1) := by decide +kernel
theorem dX1_takeTray_55 : decode cX1_takeTray 55 = .ok (.ireturn, 1) := by decide +kernel
def L_X1_takeTray_2 (d : Nat) (v0 : Option Nm) (v1 : Option Nm) (v2 : Option Nm) (v3 : Int32) (h : MH) (u : Nat) (Q : Int32 → MH → Prop) : Prop := T u_X1_takeTray (d + 1) 2 [some (jR v0), some (jR v1), some (jR v2), some (jI v3), none] [] h u (qI Q)
def F_X1_takeTray (d : Nat) (v0 : Option Nm) (v1 : Option Nm) (v2 : Option Nm) (h : MH) (u : Nat) (Q : Int32 → MH → Prop) : Prop :=
  L_X1_takeTray_2 d v0 v1 v2 0 h u Q
set_option maxRecDepth 20000 in
theorem E_X1_takeTray {d : Nat} {v0 : Option Nm} {v1 : Option Nm} {v2 : Option Nm} {h : MH} {u : Nat} {Q : Int32 → MH → Prop} (H : F_X1_takeTray d v0 v1 v2 h u Q) : T u_X1_takeTray (d + 1) 0 [some (jR v0), some (jR v1), some (jR v2), none, none] [] h u (qI Q) := by
  unfold F_X1_takeTray at H
  refine T_iconst (pc := 0) (v := 0) dX1_takeTray_0 (by decide) ?_
  refine T_istore_n (pc := 1) (ls2 := [some (jR v0), some (jR v1), some (jR v2), some (jI 0), none]) dX1_takeTray_1 rfl (Nat.le_of_ble_eq_true rfl) rfl ?_
  exact T.forget H ⟨rfl, rfl, rfl, rfl, trivial⟩
def F_X1_takeTray_2 (d : Nat) (v0 : Option Nm) (v1 : Option Nm) (v2 : Option Nm) (v3 : Int32) (h : MH) (u : Nat) (Q : Int32 → MH → Prop) : Prop :=
  gI h v2 2 4 fun x1 =>
  if x1 ≤ v3 then
    Q 0 h
  else
    gR h v2 2 2 fun x2 =>
    aI .int h x2 v3 fun x3 =>
    rc h v1 8 ∧ iI d u_X9_faultFor [jR v1, jI v3, jI x3] h u fun x4 h u =>
    if x4 = 0 then
      gR h v0 1 1 fun x5 =>
      gR h v2 2 2 fun x6 =>
      aI .int h x6 v3 fun x7 =>
      rc h v1 8 ∧ iL d u_X9_widenedTo [jR v1, jI v3, jI x7] h u fun x8 h u =>
      sV .long h x5 v3 (jL x8) fun h =>
      L_X1_takeTray_2 d v0 v1 v2 (v3 + 1) h u Q
    else
      Q x4 h
set_option maxRecDepth 20000 in
theorem E_X1_takeTray_2 {d : Nat} {v0 : Option Nm} {v1 : Option Nm} {v2 : Option Nm} {v3 : Int32} {h : MH} {u : Nat} {Q : Int32 → MH → Prop} (H : F_X1_takeTray_2 d v0 v1 v2 v3 h u Q) : T u_X1_takeTray (d + 1) 2 [some (jR v0), some (jR v1), some (jR v2), some (jI v3), none] [] h u (qI Q) := by
  unfold F_X1_takeTray_2 at H
  refine T_iload_n (pc := 2) dX1_takeTray_2 rfl rfl ?_
  refine T_aload_n (pc := 3) dX1_takeTray_3 rfl rfl ?_
  refine T_gI (pc := 4) fa_X1_19 dX1_takeTray_4 (gI_mono (fun x1 H => ?_) H)
  refine T_icmp_ge (pc := 7) (tgt := 54) dX1_takeTray_7 (by decide) (fun hc => ?_) (fun hc => ?_)
  · rw [if_pos hc] at H
    refine T_iconst (pc := 54) (v := 0) dX1_takeTray_54 (by decide) ?_
    exact T_ireturn (pc := 55) rfl rfl dX1_takeTray_55 H
  · rw [if_neg hc] at H
    refine T_aload_n (pc := 10) dX1_takeTray_10 rfl rfl ?_
    refine T_iload_n (pc := 11) dX1_takeTray_11 rfl rfl ?_
    refine T_aload_n (pc := 12) dX1_takeTray_12 rfl rfl ?_
    refine T_gR (pc := 13) fa_X1_25 dX1_takeTray_13 (gR_mono (fun x2 H => ?_) H)
    refine T_iload_n (pc := 16) dX1_takeTray_16 rfl rfl ?_
    refine T_aI (pc := 17) dX1_takeTray_17 (aI_mono (fun x3 H => ?_) H)
    obtain ⟨H0, H⟩ := H
    refine T_iV (pc := 18) (ci := 8) (av := [jI v3, jI x3]) (rest := []) (o := v1) dX1_takeTray_18 mf_X9_faultFor c_3_149 c_3_150 c_3_151 rfl rfl (Nat.le_of_ble_eq_true rfl) rfl H0 (iI_k (iI_mono (fun x4 h u H => ?_) H))
    refine T_istore (pc := 21) (ls2 := [some (jR v0), some (jR v1), some (jR v2), some (jI v3), some (jI x4)]) dX1_takeTray_21 (Nat.le_of_ble_eq_true rfl) rfl ?_
    refine T_iload (pc := 23) dX1_takeTray_23 rfl ?_
    refine T_if_eq (pc := 25) (tgt := 31) dX1_takeTray_25 (by decide) (fun hc => ?_) (fun hc => ?_)
    · rw [if_pos hc] at H
      refine T_aload_n (pc := 31) dX1_takeTray_31 rfl rfl ?_
      refine T_gR (pc := 32) fa_X1_15 dX1_takeTray_32 (gR_mono (fun x5 H => ?_) H)
      refine T_iload_n (pc := 35) dX1_takeTray_35 rfl rfl ?_
      refine T_aload_n (pc := 36) dX1_takeTray_36 rfl rfl ?_
      refine T_iload_n (pc := 37) dX1_takeTray_37 rfl rfl ?_
      refine T_aload_n (pc := 38) dX1_takeTray_38 rfl rfl ?_
      refine T_gR (pc := 39) fa_X1_25 dX1_takeTray_39 (gR_mono (fun x6 H => ?_) H)
      refine T_iload_n (pc := 42) dX1_takeTray_42 rfl rfl ?_
      refine T_aI (pc := 43) dX1_takeTray_43 (aI_mono (fun x7 H => ?_) H)
      obtain ⟨H0, H⟩ := H
      refine T_iV (pc := 44) (ci := 8) (av := [jI v3, jI x7]) (rest := [jI v3, jR x5]) (o := v1) dX1_takeTray_44 mf_X9_widenedTo c_3_155 c_3_156 c_3_157 rfl rfl (Nat.le_of_ble_eq_true rfl) rfl H0 (iL_k (iL_mono (fun x8 h u H => ?_) H))
      refine T_sL (pc := 47) dX1_takeTray_47 (sV_mono (fun h H => ?_) H)
      refine T_iinc (pc := 48) (v := v3 + 1) (ls2 := [some (jR v0), some (jR v1), some (jR v2), some (jI (v3 + 1)), some (jI x4)]) dX1_takeTray_48 rfl rfl (Nat.le_of_ble_eq_true rfl) rfl ?_
      refine T_goto (pc := 51) (tgt := 2) dX1_takeTray_51 (by decide) ?_
      exact T.forget H ⟨rfl, rfl, rfl, rfl, trivial⟩
    · rw [if_neg hc] at H
      refine T_iload (pc := 28) dX1_takeTray_28 rfl ?_
      exact T_ireturn (pc := 30) rfl rfl dX1_takeTray_30 H
theorem I_X1_takeTray {d : Nat} {v0 : Option Nm} {v1 : Option Nm} {v2 : Option Nm} {h : MH} {u : Nat} {K : Int32 → MH → Nat → Prop} (u1 : Nat) (hu : u1 ≤ u) (H : F_X1_takeTray d v0 v1 v2 h u1 (fun x h2 => K x h2 (u - u1))) : iI (d + 1) u_X1_takeTray [jR v0, jR v1, jR v2] h u K := inv.of u1 hu (Ct.of (by decide +kernel) rfl (Nat.le_of_ble_eq_true rfl) rfl (E_X1_takeTray H))
theorem dX1_takeValue_0 : decode cX1_takeValue 0 = .ok (.iconst 0, 1) := by decide +kernel
theorem dX1_takeValue_1 : decode cX1_takeValue 1 = .ok (.istore_n 3, 1) := by decide +kernel
theorem dX1_takeValue_2 : decode cX1_takeValue 2 = .ok (.iload_n 3, 1) := by decide +kernel
theorem dX1_takeValue_3 : decode cX1_takeValue 3 = .ok (.aload_n 2, 1) := by decide +kernel
theorem dX1_takeValue_4 : decode cX1_takeValue 4 = .ok (.getfield 19, 3) := by decide +kernel
theorem dX1_takeValue_7 : decode cX1_takeValue 7 = .ok (.if_icmp .ge 113, 3) := by decide +kernel
theorem dX1_takeValue_10 : decode cX1_takeValue 10 = .ok (.aload_n 2, 1) := by decide +kernel
theorem dX1_takeValue_11 : decode cX1_takeValue 11 = .ok (.getfield 25, 3) := by decide +kernel
theorem dX1_takeValue_14 : decode cX1_takeValue 14 = .ok (.iload_n 3, 1) := by decide +kernel
theorem dX1_takeValue_15 : decode cX1_takeValue 15 = .ok (.iaload, 1) := by decide +kernel
theorem dX1_takeValue_16 : decode cX1_takeValue 16 = .ok (.istore 4, 2) := by decide +kernel
theorem dX1_takeValue_18 : decode cX1_takeValue 18 = .ok (.aload_n 1, 1) := by decide +kernel
theorem dX1_takeValue_19 : decode cX1_takeValue 19 = .ok (.getfield 39, 3) := by decide +kernel
theorem dX1_takeValue_22 : decode cX1_takeValue 22 = .ok (.aload_n 2, 1) := by decide +kernel
theorem dX1_takeValue_23 : decode cX1_takeValue 23 = .ok (.getfield 45, 3) := by decide +kernel
theorem dX1_takeValue_26 : decode cX1_takeValue 26 = .ok (.iload_n 3, 1) := by decide +kernel
theorem dX1_takeValue_27 : decode cX1_takeValue 27 = .ok (.iaload, 1) := by decide +kernel
theorem dX1_takeValue_28 : decode cX1_takeValue 28 = .ok (.invokevirtual 48, 3) := by decide +kernel
theorem dX1_takeValue_31 : decode cX1_takeValue 31 = .ok (.istore 5, 2) := by decide +kernel
theorem dX1_takeValue_33 : decode cX1_takeValue 33 = .ok (.iload 5, 2) := by decide +kernel
theorem dX1_takeValue_35 : decode cX1_takeValue 35 = .ok (.iconst (-1), 1) := by decide +kernel
theorem dX1_takeValue_36 : decode cX1_takeValue 36 = .ok (.if_icmp .ne 27, 3) := by decide +kernel
theorem dX1_takeValue_39 : decode cX1_takeValue 39 = .ok (.aload_n 0, 1) := by decide +kernel
theorem dX1_takeValue_40 : decode cX1_takeValue 40 = .ok (.getfield 15, 3) := by decide +kernel
theorem dX1_takeValue_43 : decode cX1_takeValue 43 = .ok (.iload_n 3, 1) := by decide +kernel
theorem dX1_takeValue_44 : decode cX1_takeValue 44 = .ok (.iload 4, 2) := by decide +kernel
theorem dX1_takeValue_46 : decode cX1_takeValue 46 = .ok (.invokestatic 52, 3) := by decide +kernel
theorem dX1_takeValue_49 : decode cX1_takeValue 49 = .ok (.ifCond .eq 7, 3) := by decide +kernel
theorem dX1_takeValue_52 : decode cX1_takeValue 52 = .ok (.lconst 0, 1) := by decide +kernel
theorem dX1_takeValue_53 : decode cX1_takeValue 53 = .ok (.goto 6, 3) := by decide +kernel
theorem dX1_takeValue_56 : decode cX1_takeValue 56 = .ok (.ldc2_w 58, 3) := by decide +kernel
theorem dX1_takeValue_59 : decode cX1_takeValue 59 = .ok (.lastore, 1) := by decide +kernel
theorem dX1_takeValue_60 : decode cX1_takeValue 60 = .ok (.goto 54, 3) := by decide +kernel
theorem dX1_takeValue_63 : decode cX1_takeValue 63 = .ok (.aload_n 1, 1) := by decide +kernel
theorem dX1_takeValue_64 : decode cX1_takeValue 64 = .ok (.getfield 39, 3) := by decide +kernel
theorem dX1_takeValue_67 : decode cX1_takeValue 67 = .ok (.getfield 25, 3) := by decide +kernel
theorem dX1_takeValue_70 : decode cX1_takeValue 70 = .ok (.iload 5, 2) := by decide +kernel
theorem dX1_takeValue_72 : decode cX1_takeValue 72 = .ok (.iaload, 1) := by decide +kernel
theorem dX1_takeValue_73 : decode cX1_takeValue 73 = .ok (.iload 4, 2) := by decide +kernel
theorem dX1_takeValue_75 : decode cX1_takeValue 75 = .ok (.invokestatic 60, 3) := by decide +kernel
theorem dX1_takeValue_78 : decode cX1_takeValue 78 = .ok (.ifCond .eq 34, 3) := by decide +kernel
theorem dX1_takeValue_81 : decode cX1_takeValue 81 = .ok (.aload_n 0, 1) := by decide +kernel
theorem dX1_takeValue_82 : decode cX1_takeValue 82 = .ok (.getfield 15, 3) := by decide +kernel
theorem dX1_takeValue_85 : decode cX1_takeValue 85 = .ok (.iload_n 3, 1) := by decide +kernel
theorem dX1_takeValue_86 : decode cX1_takeValue 86 = .ok (.aload_n 1, 1) := by decide +kernel
theorem dX1_takeValue_87 : decode cX1_takeValue 87 = .ok (.getfield 39, 3) := by decide +kernel
theorem dX1_takeValue_90 : decode cX1_takeValue 90 = .ok (.getfield 25, 3) := by decide +kernel
theorem dX1_takeValue_93 : decode cX1_takeValue 93 = .ok (.iload 5, 2) := by decide +kernel
theorem dX1_takeValue_95 : decode cX1_takeValue 95 = .ok (.iaload, 1) := by decide +kernel
theorem dX1_takeValue_96 : decode cX1_takeValue 96 = .ok (.iload 4, 2) := by decide +kernel
theorem dX1_takeValue_98 : decode cX1_takeValue 98 = .ok (.aload_n 1, 1) := by decide +kernel
theorem dX1_takeValue_99 : decode cX1_takeValue 99 = .ok (.getfield 64, 3) := by decide +kernel
theorem dX1_takeValue_102 : decode cX1_takeValue 102 = .ok (.iload 5, 2) := by decide +kernel
theorem dX1_takeValue_104 : decode cX1_takeValue 104 = .ok (.laload, 1) := by decide +kernel
theorem dX1_takeValue_105 : decode cX1_takeValue 105 = .ok (.invokestatic 65, 3) := by decide +kernel
theorem dX1_takeValue_108 : decode cX1_takeValue 108 = .ok (.lastore, 1) := by decide +kernel
theorem dX1_takeValue_109 : decode cX1_takeValue 109 = .ok (.goto 5, 3) := by decide +kernel
theorem dX1_takeValue_112 : decode cX1_takeValue 112 = .ok (.iconst 3, 1) := by decide +kernel
theorem dX1_takeValue_113 : decode cX1_takeValue 113 = .ok (.ireturn, 1) := by decide +kernel
theorem dX1_takeValue_114 : decode cX1_takeValue 114 = .ok (.iinc 3 1, 3) := by decide +kernel
theorem dX1_takeValue_117 : decode cX1_takeValue 117 = .ok (.goto (-115), 3) := by decide +kernel
theorem dX1_takeValue_120 : decode cX1_takeValue 120 = .ok (.iconst 0, 1) := by decide +kernel
theorem dX1_takeValue_121 : decode cX1_takeValue 121 = .ok (.ireturn, 1) := by decide +kernel
def L_X1_takeValue_2 (d : Nat) (v0 : Option Nm) (v1 : Option Nm) (v2 : Option Nm) (v3 : Int32) (h : MH) (u : Nat) (Q : Int32 → MH → Prop) : Prop := T u_X1_takeValue (d + 1) 2 [some (jR v0), some (jR v1), some (jR v2), some (jI v3), none, none] [] h u (qI Q)
def F_X1_takeValue (d : Nat) (v0 : Option Nm) (v1 : Option Nm) (v2 : Option Nm) (h : MH) (u : Nat) (Q : Int32 → MH → Prop) : Prop :=
  L_X1_takeValue_2 d v0 v1 v2 0 h u Q
set_option maxRecDepth 20000 in
theorem E_X1_takeValue {d : Nat} {v0 : Option Nm} {v1 : Option Nm} {v2 : Option Nm} {h : MH} {u : Nat} {Q : Int32 → MH → Prop} (H : F_X1_takeValue d v0 v1 v2 h u Q) : T u_X1_takeValue (d + 1) 0 [some (jR v0), some (jR v1), some (jR v2), none, none, none] [] h u (qI Q) := by
  unfold F_X1_takeValue at H
  refine T_iconst (pc := 0) (v := 0) dX1_takeValue_0 (by decide) ?_
  refine T_istore_n (pc := 1) (ls2 := [some (jR v0), some (jR v1), some (jR v2), some (jI 0), none, none]) dX1_takeValue_1 rfl (Nat.le_of_ble_eq_true rfl) rfl ?_
  exact T.forget H ⟨rfl, rfl, rfl, rfl, trivial⟩
def F_X1_takeValue_59 (d : Nat) (v0 : Option Nm) (v1 : Option Nm) (v2 : Option Nm) (v3 : Int32) (s0 : Option Nm) (s1 : Int32) (s2 : Int64) (h : MH) (u : Nat) (Q : Int32 → MH → Prop) : Prop :=
  sV .long h s0 s1 (jL s2) fun h =>
  L_X1_takeValue_2 d v0 v1 v2 (v3 + 1) h u Q
set_option maxRecDepth 20000 in
theorem E_X1_takeValue_59 {d : Nat} {v0 : Option Nm} {v1 : Option Nm} {v2 : Option Nm} {v3 : Int32} {s0 : Option Nm} {s1 : Int32} {s2 : Int64} {h : MH} {u : Nat} {Q : Int32 → MH → Prop} (H : F_X1_takeValue_59 d v0 v1 v2 v3 s0 s1 s2 h u Q) : T u_X1_takeValue (d + 1) 59 [some (jR v0), some (jR v1), some (jR v2), some (jI v3), none, none] [jL s2, jI s1, jR s0] h u (qI Q) := by
  unfold F_X1_takeValue_59 at H
  refine T_sL (pc := 59) dX1_takeValue_59 (sV_mono (fun h H => ?_) H)
  refine T_goto (pc := 60) (tgt := 114) dX1_takeValue_60 (by decide) ?_
  refine T_iinc (pc := 114) (v := v3 + 1) (ls2 := [some (jR v0), some (jR v1), some (jR v2), some (jI (v3 + 1)), none, none]) dX1_takeValue_114 rfl rfl (Nat.le_of_ble_eq_true rfl) rfl ?_
  refine T_goto (pc := 117) (tgt := 2) dX1_takeValue_117 (by decide) ?_
  exact T.forget H ⟨rfl, rfl, rfl, rfl, trivial⟩
def F_X1_takeValue_2 (d : Nat) (v0 : Option Nm) (v1 : Option Nm) (v2 : Option Nm) (v3 : Int32) (h : MH) (u : Nat) (Q : Int32 → MH → Prop) : Prop :=
  gI h v2 2 4 fun x1 =>
  if x1 ≤ v3 then
    Q 0 h
  else
    gR h v2 2 2 fun x2 =>
    aI .int h x2 v3 fun x3 =>
    gR h v1 9 2 fun x4 =>
    gR h v2 2 1 fun x5 =>
    aI .int h x5 v3 fun x6 =>
    rc h x4 2 ∧ iI d u_X2_find [jR x4, jI x6] h u fun x7 h u =>
    if x7 = (-1) then
      gR h v0 1 1 fun x19 =>
      iI d u_X4_isNumber [jI x3] h u fun x20 h u =>
      if x20 = 0 then
        F_X1_takeValue_59 d v0 v1 v2 v3 x19 v3 (-1) h u Q
      else
        F_X1_takeValue_59 d v0 v1 v2 v3 x19 v3 0 h u Q
    else
      gR h v1 9 2 fun x8 =>
      gR h x8 2 2 fun x9 =>
      aI .int h x9 x7 fun x10 =>
      iI d u_X4_isWidened [jI x10, jI x3] h u fun x11 h u =>
      if x11 = 0 then
        Q 3 h
      else
        gR h v0 1 1 fun x12 =>
        gR h v1 9 2 fun x13 =>
        gR h x13 2 2 fun x14 =>
        aI .int h x14 x7 fun x15 =>
        gR h v1 9 5 fun x16 =>
        aL h x16 x7 fun x17 =>
        iL d u_X4_widen [jI x15, jI x3, jL x17] h u fun x18 h u =>
        sV .long h x12 v3 (jL x18) fun h =>
        L_X1_takeValue_2 d v0 v1 v2 (v3 + 1) h u Q
set_option maxRecDepth 20000 in
theorem E_X1_takeValue_2 {d : Nat} {v0 : Option Nm} {v1 : Option Nm} {v2 : Option Nm} {v3 : Int32} {h : MH} {u : Nat} {Q : Int32 → MH → Prop} (H : F_X1_takeValue_2 d v0 v1 v2 v3 h u Q) : T u_X1_takeValue (d + 1) 2 [some (jR v0), some (jR v1), some (jR v2), some (jI v3), none, none] [] h u (qI Q) := by
  unfold F_X1_takeValue_2 at H
  refine T_iload_n (pc := 2) dX1_takeValue_2 rfl rfl ?_
  refine T_aload_n (pc := 3) dX1_takeValue_3 rfl rfl ?_
  refine T_gI (pc := 4) fa_X1_19 dX1_takeValue_4 (gI_mono (fun x1 H => ?_) H)
  refine T_icmp_ge (pc := 7) (tgt := 120) dX1_takeValue_7 (by decide) (fun hc => ?_) (fun hc => ?_)
  · rw [if_pos hc] at H
    refine T_iconst (pc := 120) (v := 0) dX1_takeValue_120 (by decide) ?_
    exact T_ireturn (pc := 121) rfl rfl dX1_takeValue_121 H
  · rw [if_neg hc] at H
    refine T_aload_n (pc := 10) dX1_takeValue_10 rfl rfl ?_
    refine T_gR (pc := 11) fa_X1_25 dX1_takeValue_11 (gR_mono (fun x2 H => ?_) H)
    refine T_iload_n (pc := 14) dX1_takeValue_14 rfl rfl ?_
    refine T_aI (pc := 15) dX1_takeValue_15 (aI_mono (fun x3 H => ?_) H)
    refine T_istore (pc := 16) (ls2 := [some (jR v0), some (jR v1), some (jR v2), some (jI v3), some (jI x3), none]) dX1_takeValue_16 (Nat.le_of_ble_eq_true rfl) rfl ?_
    refine T_aload_n (pc := 18) dX1_takeValue_18 rfl rfl ?_
    refine T_gR (pc := 19) fa_X1_39 dX1_takeValue_19 (gR_mono (fun x4 H => ?_) H)
    refine T_aload_n (pc := 22) dX1_takeValue_22 rfl rfl ?_
    refine T_gR (pc := 23) fa_X1_45 dX1_takeValue_23 (gR_mono (fun x5 H => ?_) H)
    refine T_iload_n (pc := 26) dX1_takeValue_26 rfl rfl ?_
    refine T_aI (pc := 27) dX1_takeValue_27 (aI_mono (fun x6 H => ?_) H)
    obtain ⟨H0, H⟩ := H
    refine T_iV (pc := 28) (ci := 2) (av := [jI x6]) (rest := []) (o := x4) dX1_takeValue_28 mf_X2_find c_4_162 c_2_218 c_2_219 rfl rfl (Nat.le_of_ble_eq_true rfl) rfl H0 (iI_k (iI_mono (fun x7 h u H => ?_) H))
    refine T_istore (pc := 31) (ls2 := [some (jR v0), some (jR v1), some (jR v2), some (jI v3), some (jI x3), some (jI x7)]) dX1_takeValue_31 (Nat.le_of_ble_eq_true rfl) rfl ?_
    refine T_iload (pc := 33) dX1_takeValue_33 rfl ?_
    refine T_iconst (pc := 35) (v := (-1)) dX1_takeValue_35 (by decide) ?_
    refine T_icmp_ne (pc := 36) (tgt := 63) dX1_takeValue_36 (by decide) (fun hc => ?_) (fun hc => ?_)
    · rw [if_neg hc] at H
      refine T_aload_n (pc := 63) dX1_takeValue_63 rfl rfl ?_
      refine T_gR (pc := 64) fa_X1_39 dX1_takeValue_64 (gR_mono (fun x8 H => ?_) H)
      refine T_gR (pc := 67) fa_X1_25 dX1_takeValue_67 (gR_mono (fun x9 H => ?_) H)
      refine T_iload (pc := 70) dX1_takeValue_70 rfl ?_
      refine T_aI (pc := 72) dX1_takeValue_72 (aI_mono (fun x10 H => ?_) H)
      refine T_iload (pc := 73) dX1_takeValue_73 rfl ?_
      refine T_invS (pc := 75) (av := [jI x10, jI x3]) (rest := []) dX1_takeValue_75 mf_X4_isWidened c_4_163 c_2_16 rfl (Nat.le_of_ble_eq_true rfl) rfl (iI_k (iI_mono (fun x11 h u H => ?_) H))
      refine T_if_eq (pc := 78) (tgt := 112) dX1_takeValue_78 (by decide) (fun hc => ?_) (fun hc => ?_)
      · rw [if_pos hc] at H
        refine T_iconst (pc := 112) (v := 3) dX1_takeValue_112 (by decide) ?_
        exact T_ireturn (pc := 113) rfl rfl dX1_takeValue_113 H
      · rw [if_neg hc] at H
        refine T_aload_n (pc := 81) dX1_takeValue_81 rfl rfl ?_
        refine T_gR (pc := 82) fa_X1_15 dX1_takeValue_82 (gR_mono (fun x12 H => ?_) H)
        refine T_iload_n (pc := 85) dX1_takeValue_85 rfl rfl ?_
        refine T_aload_n (pc := 86) dX1_takeValue_86 rfl rfl ?_
        refine T_gR (pc := 87) fa_X1_39 dX1_takeValue_87 (gR_mono (fun x13 H => ?_) H)
        refine T_gR (pc := 90) fa_X1_25 dX1_takeValue_90 (gR_mono (fun x14 H => ?_) H)
        refine T_iload (pc := 93) dX1_takeValue_93 rfl ?_
        refine T_aI (pc := 95) dX1_takeValue_95 (aI_mono (fun x15 H => ?_) H)
        refine T_iload (pc := 96) dX1_takeValue_96 rfl ?_
        refine T_aload_n (pc := 98) dX1_takeValue_98 rfl rfl ?_
        refine T_gR (pc := 99) fa_X1_64 dX1_takeValue_99 (gR_mono (fun x16 H => ?_) H)
        refine T_iload (pc := 102) dX1_takeValue_102 rfl ?_
        refine T_aL (pc := 104) dX1_takeValue_104 (aL_mono (fun x17 H => ?_) H)
        refine T_invS (pc := 105) (av := [jI x15, jI x3, jL x17]) (rest := [jI v3, jR x12]) dX1_takeValue_105 mf_X4_widen c_4_164 c_2_40 rfl (Nat.le_of_ble_eq_true rfl) rfl (iL_k (iL_mono (fun x18 h u H => ?_) H))
        refine T_sL (pc := 108) dX1_takeValue_108 (sV_mono (fun h H => ?_) H)
        refine T_goto (pc := 109) (tgt := 114) dX1_takeValue_109 (by decide) ?_
        refine T_iinc (pc := 114) (v := v3 + 1) (ls2 := [some (jR v0), some (jR v1), some (jR v2), some (jI (v3 + 1)), some (jI x3), some (jI x7)]) dX1_takeValue_114 rfl rfl (Nat.le_of_ble_eq_true rfl) rfl ?_
        refine T_goto (pc := 117) (tgt := 2) dX1_takeValue_117 (by decide) ?_
        exact T.forget H ⟨rfl, rfl, rfl, rfl, trivial⟩
    · rw [if_pos hc] at H
      refine T_aload_n (pc := 39) dX1_takeValue_39 rfl rfl ?_
      refine T_gR (pc := 40) fa_X1_15 dX1_takeValue_40 (gR_mono (fun x19 H => ?_) H)
      refine T_iload_n (pc := 43) dX1_takeValue_43 rfl rfl ?_
      refine T_iload (pc := 44) dX1_takeValue_44 rfl ?_
      refine T_invS (pc := 46) (av := [jI x3]) (rest := [jI v3, jR x19]) dX1_takeValue_46 mf_X4_isNumber c_3_197 c_2_6 rfl (Nat.le_of_ble_eq_true rfl) rfl (iI_k (iI_mono (fun x20 h u H => ?_) H))
      refine T_if_eq (pc := 49) (tgt := 56) dX1_takeValue_49 (by decide) (fun hc => ?_) (fun hc => ?_)
      · rw [if_pos hc] at H
        refine T_ldc2 (pc := 56) (v := (-1)) dX1_takeValue_56 c_3_198 ?_
        exact T.forget (E_X1_takeValue_59 H) ⟨rfl, rfl, rfl, rfl, trivial⟩
      · rw [if_neg hc] at H
        refine T_lconst (pc := 52) (v := 0) dX1_takeValue_52 (by decide) ?_
        refine T_goto (pc := 53) (tgt := 59) dX1_takeValue_53 (by decide) ?_
        exact T.forget (E_X1_takeValue_59 H) ⟨rfl, rfl, rfl, rfl, trivial⟩
theorem I_X1_takeValue {d : Nat} {v0 : Option Nm} {v1 : Option Nm} {v2 : Option Nm} {h : MH} {u : Nat} {K : Int32 → MH → Nat → Prop} (u1 : Nat) (hu : u1 ≤ u) (H : F_X1_takeValue d v0 v1 v2 h u1 (fun x h2 => K x h2 (u - u1))) : iI (d + 1) u_X1_takeValue [jR v0, jR v1, jR v2] h u K := inv.of u1 hu (Ct.of (by decide +kernel) rfl (Nat.le_of_ble_eq_true rfl) rfl (E_X1_takeValue H))
theorem dX1_countTwins_0 : decode cX1_countTwins 0 = .ok (.iconst 0, 1) := by decide +kernel
theorem dX1_countTwins_1 : decode cX1_countTwins 1 = .ok (.istore_n 3, 1) := by decide +kernel
theorem dX1_countTwins_2 : decode cX1_countTwins 2 = .ok (.iconst 0, 1) := by decide +kernel
theorem dX1_countTwins_3 : decode cX1_countTwins 3 = .ok (.istore 4, 2) := by decide +kernel
theorem dX1_countTwins_5 : decode cX1_countTwins 5 = .ok (.iload 4, 2) := by decide +kernel
theorem dX1_countTwins_7 : decode cX1_countTwins 7 = .ok (.aload_n 1, 1) := by decide +kernel
theorem dX1_countTwins_8 : decode cX1_countTwins 8 = .ok (.getfield 19, 3) := by decide +kernel
theorem dX1_countTwins_11 : decode cX1_countTwins 11 = .ok (.if_icmp .ge 26, 3) := by decide +kernel
theorem dX1_countTwins_14 : decode cX1_countTwins 14 = .ok (.aload_n 0, 1) := by decide +kernel
theorem dX1_countTwins_15 : decode cX1_countTwins 15 = .ok (.aload_n 1, 1) := by decide +kernel
theorem dX1_countTwins_16 : decode cX1_countTwins 16 = .ok (.iload 4, 2) := by decide +kernel
theorem dX1_countTwins_18 : decode cX1_countTwins 18 = .ok (.invokevirtual 69, 3) := by decide +kernel
theorem dX1_countTwins_21 : decode cX1_countTwins 21 = .ok (.iload_n 2, 1) := by decide +kernel
theorem dX1_countTwins_22 : decode cX1_countTwins 22 = .ok (.invokestatic 73, 3) := by decide +kernel
theorem dX1_countTwins_25 : decode cX1_countTwins 25 = .ok (.ifCond .eq 6, 3) := by decide +kernel
theorem dX1_countTwins_28 : decode cX1_countTwins 28 = .ok (.iinc 3 1, 3) := by decide +kernel
theorem dX1_countTwins_31 : decode cX1_countTwins 31 = .ok (.iinc 4 1, 3) := by decide +kernel
theorem dX1_countTwins_34 : decode cX1_countTwins 34 = .ok (.goto (-29), 3) := by decide +kernel
theorem dX1_countTwins_37 : decode cX1_countTwins 37 = .ok (.iload_n 3, 1) := by decide +kernel
theorem dX1_countTwins_38 : decode cX1_countTwins 38 = .ok (.ireturn, 1) := by decide +kernel
def L_X1_countTwins_5 (d : Nat) (v0 : Option Nm) (v1 : Option Nm) (v2 : Int32) (v3 : Int32) (v4 : Int32) (h : MH) (u : Nat) (Q : Int32 → MH → Prop) : Prop := T u_X1_countTwins (d + 1) 5 [some (jR v0), some (jR v1), some (jI v2), some (jI v3), some (jI v4)] [] h u (qI Q)
def F_X1_countTwins (d : Nat) (v0 : Option Nm) (v1 : Option Nm) (v2 : Int32) (h : MH) (u : Nat) (Q : Int32 → MH → Prop) : Prop :=
  L_X1_countTwins_5 d v0 v1 v2 0 0 h u Q
set_option maxRecDepth 20000 in
theorem E_X1_countTwins {d : Nat} {v0 : Option Nm} {v1 : Option Nm} {v2 : Int32} {h : MH} {u : Nat} {Q : Int32 → MH → Prop} (H : F_X1_countTwins d v0 v1 v2 h u Q) : T u_X1_countTwins (d + 1) 0 [some (jR v0), some (jR v1), some (jI v2), none, none] [] h u (qI Q) := by
  unfold F_X1_countTwins at H
  refine T_iconst (pc := 0) (v := 0) dX1_countTwins_0 (by decide) ?_
  refine T_istore_n (pc := 1) (ls2 := [some (jR v0), some (jR v1), some (jI v2), some (jI 0), none]) dX1_countTwins_1 rfl (Nat.le_of_ble_eq_true rfl) rfl ?_
  refine T_iconst (pc := 2) (v := 0) dX1_countTwins_2 (by decide) ?_
  refine T_istore (pc := 3) (ls2 := [some (jR v0), some (jR v1), some (jI v2), some (jI 0), some (jI 0)]) dX1_countTwins_3 (Nat.le_of_ble_eq_true rfl) rfl ?_
  exact T.forget H ⟨rfl, rfl, rfl, rfl, rfl, trivial⟩
def F_X1_countTwins_5 (d : Nat) (v0 : Option Nm) (v1 : Option Nm) (v2 : Int32) (v3 : Int32) (v4 : Int32) (h : MH) (u : Nat) (Q : Int32 → MH → Prop) : Prop :=
  gI h v1 2 4 fun x1 =>
  if x1 ≤ v4 then
    Q v3 h
  else
    rc h v0 1 ∧ iR d u_X1_rowOf [jR v0, jR v1, jI v4] h u fun x2 h u =>
    iI d u_X1_needsTwin [jR x2, jI v2] h u fun x3 h u =>
    if x3 = 0 then
      L_X1_countTwins_5 d v0 v1 v2 v3 (v4 + 1) h u Q
    else
      L_X1_countTwins_5 d v0 v1 v2 (v3 + 1) (v4 + 1) h u Q
set_option maxRecDepth 20000 in
theorem E_X1_countTwins_5 {d : Nat} {v0 : Option Nm} {v1 : Option Nm} {v2 : Int32} {v3 : Int32} {v4 : Int32} {h : MH} {u : Nat} {Q : Int32 → MH → Prop} (H : F_X1_countTwins_5 d v0 v1 v2 v3 v4 h u Q) : T u_X1_countTwins (d + 1) 5 [some (jR v0), some (jR v1), some (jI v2), some (jI v3), some (jI v4)] [] h u (qI Q) := by
  unfold F_X1_countTwins_5 at H
  refine T_iload (pc := 5) dX1_countTwins_5 rfl ?_
  refine T_aload_n (pc := 7) dX1_countTwins_7 rfl rfl ?_
  refine T_gI (pc := 8) fa_X1_19 dX1_countTwins_8 (gI_mono (fun x1 H => ?_) H)
  refine T_icmp_ge (pc := 11) (tgt := 37) dX1_countTwins_11 (by decide) (fun hc => ?_) (fun hc => ?_)
  · rw [if_pos hc] at H
    refine T_iload_n (pc := 37) dX1_countTwins_37 rfl rfl ?_
    exact T_ireturn (pc := 38) rfl rfl dX1_countTwins_38 H
  · rw [if_neg hc] at H
    refine T_aload_n (pc := 14) dX1_countTwins_14 rfl rfl ?_
    refine T_aload_n (pc := 15) dX1_countTwins_15 rfl rfl ?_
    refine T_iload (pc := 16) dX1_countTwins_16 rfl ?_
    obtain ⟨H0, H⟩ := H
    refine T_iV (pc := 18) (ci := 1) (av := [jR v1, jI v4]) (rest := []) (o := v0) dX1_countTwins_18 mf_X1_rowOf c_3_169 c_3_171 pr_X1_rowOf rfl rfl (Nat.le_of_ble_eq_true rfl) rfl H0 (iR_k (iR_mono (fun x2 h u H => ?_) H))
    refine T_iload_n (pc := 21) dX1_countTwins_21 rfl rfl ?_
    refine T_invS (pc := 22) (av := [jR x2, jI v2]) (rest := []) dX1_countTwins_22 mf_X1_needsTwin c_3_174 c_3_175 rfl (Nat.le_of_ble_eq_true rfl) rfl (iI_k (iI_mono (fun x3 h u H => ?_) H))
    refine T_if_eq (pc := 25) (tgt := 31) dX1_countTwins_25 (by decide) (fun hc => ?_) (fun hc => ?_)
    · rw [if_pos hc] at H
      refine T_iinc (pc := 31) (v := v4 + 1) (ls2 := [some (jR v0), some (jR v1), some (jI v2), some (jI v3), some (jI (v4 + 1))]) dX1_countTwins_31 rfl rfl (Nat.le_of_ble_eq_true rfl) rfl ?_
      refine T_goto (pc := 34) (tgt := 5) dX1_countTwins_34 (by decide) ?_
      exact T.forget H ⟨rfl, rfl, rfl, rfl, rfl, trivial⟩
    · rw [if_neg hc] at H
      refine T_iinc (pc := 28) (v := v3 + 1) (ls2 := [some (jR v0), some (jR v1), some (jI v2), some (jI (v3 + 1)), some (jI v4)]) dX1_countTwins_28 rfl rfl (Nat.le_of_ble_eq_true rfl) rfl ?_
      refine T_iinc (pc := 31) (v := v4 + 1) (ls2 := [some (jR v0), some (jR v1), some (jI v2), some (jI (v3 + 1)), some (jI (v4 + 1))]) dX1_countTwins_31 rfl rfl (Nat.le_of_ble_eq_true rfl) rfl ?_
      refine T_goto (pc := 34) (tgt := 5) dX1_countTwins_34 (by decide) ?_
      exact T.forget H ⟨rfl, rfl, rfl, rfl, rfl, trivial⟩
theorem I_X1_countTwins {d : Nat} {v0 : Option Nm} {v1 : Option Nm} {v2 : Int32} {h : MH} {u : Nat} {K : Int32 → MH → Nat → Prop} (u1 : Nat) (hu : u1 ≤ u) (H : F_X1_countTwins d v0 v1 v2 h u1 (fun x h2 => K x h2 (u - u1))) : iI (d + 1) u_X1_countTwins [jR v0, jR v1, jI v2] h u K := inv.of u1 hu (Ct.of (by decide +kernel) rfl (Nat.le_of_ble_eq_true rfl) rfl (E_X1_countTwins H))
theorem dX1_obeys_0 : decode cX1_obeys 0 = .ok (.iload_n 2, 1) := by decide +kernel
theorem dX1_obeys_1 : decode cX1_obeys 1 = .ok (.tableswitch 62 1 3 #[27, 41, 56], 27) := by decide +kernel
theorem dX1_obeys_28 : decode cX1_obeys 28 = .ok (.aload_n 0, 1) := by decide +kernel
theorem dX1_obeys_29 : decode cX1_obeys 29 = .ok (.aload_n 1, 1) := by decide +kernel
theorem dX1_obeys_30 : decode cX1_obeys 30 = .ok (.invokevirtual 77, 3) := by decide +kernel
theorem dX1_obeys_33 : decode cX1_obeys 33 = .ok (.ifCond .ne 7, 3) := by decide +kernel
theorem dX1_obeys_36 : decode cX1_obeys 36 = .ok (.iconst 1, 1) := by decide +kernel
theorem dX1_obeys_37 : decode cX1_obeys 37 = .ok (.goto 4, 3) := by decide +kernel
theorem dX1_obeys_40 : decode cX1_obeys 40 = .ok (.iconst 0, 1) := by decide +kernel
theorem dX1_obeys_41 : decode cX1_obeys 41 = .ok (.ireturn, 1) := by decide +kernel
theorem dX1_obeys_42 : decode cX1_obeys 42 = .ok (.aload_n 0, 1) := by decide +kernel
theorem dX1_obeys_43 : decode cX1_obeys 43 = .ok (.aload_n 1, 1) := by decide +kernel
theorem dX1_obeys_44 : decode cX1_obeys 44 = .ok (.invokevirtual 77, 3) := by decide +kernel
theorem dX1_obeys_47 : decode cX1_obeys 47 = .ok (.ifCond .eq 8, 3) := by decide +kernel
theorem dX1_obeys_50 : decode cX1_obeys 50 = .ok (.aload_n 0, 1) := by decide +kernel
theorem dX1_obeys_51 : decode cX1_obeys 51 = .ok (.aload_n 1, 1) := by decide +kernel
theorem dX1_obeys_52 : decode cX1_obeys 52 = .ok (.invokevirtual 81, 3) := by decide +kernel
theorem dX1_obeys_55 : decode cX1_obeys 55 = .ok (.iconst 1, 1) := by decide +kernel
theorem dX1_obeys_56 : decode cX1_obeys 56 = .ok (.ireturn, 1) := by decide +kernel
theorem dX1_obeys_57 : decode cX1_obeys 57 = .ok (.aload_n 0, 1) := by decide +kernel
theorem dX1_obeys_58 : decode cX1_obeys 58 = .ok (.aload_n 1, 1) := by decide +kernel
theorem dX1_obeys_59 : decode cX1_obeys 59 = .ok (.invokevirtual 85, 3) := by decide +kernel
theorem dX1_obeys_62 : decode cX1_obeys 62 = .ok (.ireturn, 1) := by decide +kernel
theorem dX1_obeys_63 : decode cX1_obeys 63 = .ok (.iconst 1, 1) := by decide +kernel
theorem dX1_obeys_64 : decode cX1_obeys 64 = .ok (.ireturn, 1) := by decide +kernel
def F_X1_obeys (d : Nat) (v0 : Option Nm) (v1 : Option Nm) (v2 : Int32) (h : MH) (u : Nat) (Q : Int32 → MH → Prop) : Prop :=
  if v2 = 1 then
    rc h v0 1 ∧ iI d u_X1_isFalling [jR v0, jR v1] h u fun x1 h u =>
    if x1 = 0 then
      nz 1 ∧ Q 1 h
    else
      nz 0 ∧ Q 0 h
  else if v2 = 2 then
    rc h v0 1 ∧ iI d u_X1_isFalling [jR v0, jR v1] h u fun x2 h u =>
    if x2 = 0 then
      nz 1 ∧ Q 1 h
    else
      rc h v0 1 ∧ iV d u_X1_exchange [jR v0, jR v1] h u fun h u =>
      nz 1 ∧ Q 1 h
  else if v2 = 3 then
    rc h v0 1 ∧ iI d u_X1_hasEveryPart [jR v0, jR v1] h u fun x4 h u =>
    nz x4 ∧ Q x4 h
  else 
    nz 1 ∧ Q 1 h
set_option maxRecDepth 20000 in
theorem E_X1_obeys {d : Nat} {v0 : Option Nm} {v1 : Option Nm} {v2 : Int32} {h : MH} {u : Nat} {Q : Int32 → MH → Prop} (H : F_X1_obeys d v0 v1 v2 h u Q) : T u_X1_obeys (d + 1) 0 [some (jR v0), some (jR v1), some (jI v2)] [] h u (qI Q) := by
  unfold F_X1_obeys at H
  refine T_iload_n (pc := 0) dX1_obeys_0 rfl rfl ?_
  by_cases h0 : v2 = 1
  · rw [if_pos h0] at H
    refine T_tableIn (pc := 1) (off := 27) (tgt := 28) dX1_obeys_1 (by rw [h0]; decide) (by rw [h0]; decide) (by rw [h0]; rfl) (by decide) ?_
    refine T_aload_n (pc := 28) dX1_obeys_28 rfl rfl ?_
    refine T_aload_n (pc := 29) dX1_obeys_29 rfl rfl ?_
    obtain ⟨H0, H⟩ := H
    refine T_iV (pc := 30) (ci := 1) (av := [jR v1]) (rest := []) (o := v0) dX1_obeys_30 mf_X1_isFalling c_3_181 c_3_183 pr_X1_isFalling rfl rfl (Nat.le_of_ble_eq_true rfl) rfl H0 (iI_k (iI_mono (fun x1 h u H => ?_) H))
    refine T_if_ne (pc := 33) (tgt := 40) dX1_obeys_33 (by decide) (fun hc => ?_) (fun hc => ?_)
    · rw [if_neg hc] at H
      refine T_iconst (pc := 40) (v := 0) dX1_obeys_40 (by decide) ?_
      exact T_ireturn (pc := 41) rfl (nz_nar H.1) dX1_obeys_41 H.2
    · rw [if_pos hc] at H
      refine T_iconst (pc := 36) (v := 1) dX1_obeys_36 (by decide) ?_
      refine T_goto (pc := 37) (tgt := 41) dX1_obeys_37 (by decide) ?_
      exact T_ireturn (pc := 41) rfl (nz_nar H.1) dX1_obeys_41 H.2
  rw [if_neg h0] at H
  by_cases h1 : v2 = 2
  · rw [if_pos h1] at H
    refine T_tableIn (pc := 1) (off := 41) (tgt := 42) dX1_obeys_1 (by rw [h1]; decide) (by rw [h1]; decide) (by rw [h1]; rfl) (by decide) ?_
    refine T_aload_n (pc := 42) dX1_obeys_42 rfl rfl ?_
    refine T_aload_n (pc := 43) dX1_obeys_43 rfl rfl ?_
    obtain ⟨H0, H⟩ := H
    refine T_iV (pc := 44) (ci := 1) (av := [jR v1]) (rest := []) (o := v0) dX1_obeys_44 mf_X1_isFalling c_3_181 c_3_183 pr_X1_isFalling rfl rfl (Nat.le_of_ble_eq_true rfl) rfl H0 (iI_k (iI_mono (fun x2 h u H => ?_) H))
    refine T_if_eq (pc := 47) (tgt := 55) dX1_obeys_47 (by decide) (fun hc => ?_) (fun hc => ?_)
    · rw [if_pos hc] at H
      refine T_iconst (pc := 55) (v := 1) dX1_obeys_55 (by decide) ?_
      exact T_ireturn (pc := 56) rfl (nz_nar H.1) dX1_obeys_56 H.2
    · rw [if_neg hc] at H
      refine T_aload_n (pc := 50) dX1_obeys_50 rfl rfl ?_
      refine T_aload_n (pc := 51) dX1_obeys_51 rfl rfl ?_
      obtain ⟨H0, H⟩ := H
      refine T_iV (pc := 52) (ci := 1) (av := [jR v1]) (rest := []) (o := v0) dX1_obeys_52 mf_X1_exchange c_3_188 c_3_190 pr_X1_exchange rfl rfl (Nat.le_of_ble_eq_true rfl) rfl H0 (iV_k (iV_mono (fun h u H => ?_) H))
      refine T_iconst (pc := 55) (v := 1) dX1_obeys_55 (by decide) ?_
      exact T_ireturn (pc := 56) rfl (nz_nar H.1) dX1_obeys_56 H.2
  rw [if_neg h1] at H
  by_cases h2 : v2 = 3
  · rw [if_pos h2] at H
    refine T_tableIn (pc := 1) (off := 56) (tgt := 57) dX1_obeys_1 (by rw [h2]; decide) (by rw [h2]; decide) (by rw [h2]; rfl) (by decide) ?_
    refine T_aload_n (pc := 57) dX1_obeys_57 rfl rfl ?_
    refine T_aload_n (pc := 58) dX1_obeys_58 rfl rfl ?_
    obtain ⟨H0, H⟩ := H
    refine T_iV (pc := 59) (ci := 1) (av := [jR v1]) (rest := []) (o := v0) dX1_obeys_59 mf_X1_hasEveryPart c_3_193 c_3_195 pr_X1_hasEveryPart rfl rfl (Nat.le_of_ble_eq_true rfl) rfl H0 (iI_k (iI_mono (fun x4 h u H => ?_) H))
    exact T_ireturn (pc := 62) rfl (nz_nar H.1) dX1_obeys_62 H.2
  rw [if_neg h2] at H
  have e0 : (v2 : Int32).toInt ≠ 1 := fun q => h0 (Int32.toInt_inj.mp (q.trans (by decide)))
  have e1 : (v2 : Int32).toInt ≠ 2 := fun q => h1 (Int32.toInt_inj.mp (q.trans (by decide)))
  have e2 : (v2 : Int32).toInt ≠ 3 := fun q => h2 (Int32.toInt_inj.mp (q.trans (by decide)))
  refine T_tableOut (pc := 1) (tgt := 63) dX1_obeys_1 (by omega) (by decide) ?_
  refine T_iconst (pc := 63) (v := 1) dX1_obeys_63 (by decide) ?_
  exact T_ireturn (pc := 64) rfl (nz_nar H.1) dX1_obeys_64 H.2
theorem I_X1_obeys {d : Nat} {v0 : Option Nm} {v1 : Option Nm} {v2 : Int32} {h : MH} {u : Nat} {K : Int32 → MH → Nat → Prop} (u1 : Nat) (hu : u1 ≤ u) (H : F_X1_obeys d v0 v1 v2 h u1 (fun x h2 => K x h2 (u - u1))) : iI (d + 1) u_X1_obeys [jR v0, jR v1, jI v2] h u K := inv.of u1 hu (Ct.of (by decide +kernel) rfl (Nat.le_of_ble_eq_true rfl) rfl (E_X1_obeys H))
theorem dX1_measure_0 : decode cX1_measure 0 = .ok (.aload_n 0, 1) := by decide +kernel
theorem dX1_measure_1 : decode cX1_measure 1 = .ok (.iconst 1, 1) := by decide +kernel
theorem dX1_measure_2 : decode cX1_measure 2 = .ok (.putfield 88, 3) := by decide +kernel
theorem dX1_measure_5 : decode cX1_measure 5 = .ok (.aload_n 0, 1) := by decide +kernel
theorem dX1_measure_6 : decode cX1_measure 6 = .ok (.iconst 1, 1) := by decide +kernel
theorem dX1_measure_7 : decode cX1_measure 7 = .ok (.putfield 91, 3) := by decide +kernel
theorem dX1_measure_10 : decode cX1_measure 10 = .ok (.iconst 0, 1) := by decide +kernel
theorem dX1_measure_11 : decode cX1_measure 11 = .ok (.istore_n 2, 1) := by decide +kernel
theorem dX1_measure_12 : decode cX1_measure 12 = .ok (.iload_n 2, 1) := by decide +kernel
theorem dX1_measure_13 : decode cX1_measure 13 = .ok (.aload_n 1, 1) := by decide +kernel
theorem dX1_measure_14 : decode cX1_measure 14 = .ok (.getfield 19, 3) := by decide +kernel
theorem dX1_measure_17 : decode cX1_measure 17 = .ok (.if_icmp .ge 80, 3) := by decide +kernel
theorem dX1_measure_20 : decode cX1_measure 20 = .ok (.aload_n 1, 1) := by decide +kernel
theorem dX1_measure_21 : decode cX1_measure 21 = .ok (.getfield 25, 3) := by decide +kernel
theorem dX1_measure_24 : decode cX1_measure 24 = .ok (.iload_n 2, 1) := by decide +kernel
theorem dX1_measure_25 : decode cX1_measure 25 = .ok (.iaload, 1) := by decide +kernel
theorem dX1_measure_26 : decode cX1_measure 26 = .ok (.bipush 8, 2) := by decide +kernel
theorem dX1_measure_28 : decode cX1_measure 28 = .ok (.if_icmp .ne 13, 3) := by decide +kernel
theorem dX1_measure_31 : decode cX1_measure 31 = .ok (.aload_n 0, 1) := by decide +kernel
theorem dX1_measure_32 : decode cX1_measure 32 = .ok (.aload_n 0, 1) := by decide +kernel
theorem dX1_measure_33 : decode cX1_measure 33 = .ok (.getfield 15, 3) := by decide +kernel
theorem dX1_measure_36 : decode cX1_measure 36 = .ok (.iload_n 2, 1) := by decide +kernel
theorem dX1_measure_37 : decode cX1_measure 37 = .ok (.laload, 1) := by decide +kernel
theorem dX1_measure_38 : decode cX1_measure 38 = .ok (.invokevirtual 94, 3) := by decide +kernel
theorem dX1_measure_41 : decode cX1_measure 41 = .ok (.aload_n 0, 1) := by decide +kernel
theorem dX1_measure_42 : decode cX1_measure 42 = .ok (.aload_n 1, 1) := by decide +kernel
theorem dX1_measure_43 : decode cX1_measure 43 = .ok (.iload_n 2, 1) := by decide +kernel
theorem dX1_measure_44 : decode cX1_measure 44 = .ok (.invokevirtual 69, 3) := by decide +kernel
theorem dX1_measure_47 : decode cX1_measure 47 = .ok (.astore_n 3, 1) := by decide +kernel
theorem dX1_measure_48 : decode cX1_measure 48 = .ok (.aload_n 3, 1) := by decide +kernel
theorem dX1_measure_49 : decode cX1_measure 49 = .ok (.ifnull 42, 3) := by decide +kernel
theorem dX1_measure_52 : decode cX1_measure 52 = .ok (.aload_n 3, 1) := by decide +kernel
theorem dX1_measure_53 : decode cX1_measure 53 = .ok (.getfield 98, 3) := by decide +kernel
theorem dX1_measure_56 : decode cX1_measure 56 = .ok (.bipush 8, 2) := by decide +kernel
theorem dX1_measure_58 : decode cX1_measure 58 = .ok (.if_icmp .ne 33, 3) := by decide +kernel
theorem dX1_measure_61 : decode cX1_measure 61 = .ok (.iconst 0, 1) := by decide +kernel
theorem dX1_measure_62 : decode cX1_measure 62 = .ok (.istore 4, 2) := by decide +kernel
theorem dX1_measure_64 : decode cX1_measure 64 = .ok (.iload 4, 2) := by decide +kernel
theorem dX1_measure_66 : decode cX1_measure 66 = .ok (.aload_n 3, 1) := by decide +kernel
theorem dX1_measure_67 : decode cX1_measure 67 = .ok (.getfield 103, 3) := by decide +kernel
theorem dX1_measure_70 : decode cX1_measure 70 = .ok (.arraylength, 1) := by decide +kernel
theorem dX1_measure_71 : decode cX1_measure 71 = .ok (.if_icmp .ge 20, 3) := by decide +kernel
theorem dX1_measure_74 : decode cX1_measure 74 = .ok (.aload_n 0, 1) := by decide +kernel
theorem dX1_measure_75 : decode cX1_measure 75 = .ok (.aload_n 3, 1) := by decide +kernel
theorem dX1_measure_76 : decode cX1_measure 76 = .ok (.getfield 103, 3) := by decide +kernel
theorem dX1_measure_79 : decode cX1_measure 79 = .ok (.iload 4, 2) := by decide +kernel
theorem dX1_measure_81 : decode cX1_measure 81 = .ok (.laload, 1) := by decide +kernel
theorem dX1_measure_82 : decode cX1_measure 82 = .ok (.invokevirtual 94, 3) := by decide +kernel
theorem dX1_measure_85 : decode cX1_measure 85 = .ok (.iinc 4 1, 3) := by decide +kernel
theorem dX1_measure_88 : decode cX1_measure 88 = .ok (.goto (-24), 3) := by decide +kernel
theorem dX1_measure_91 : decode cX1_measure 91 = .ok (.iinc 2 1, 3) := by decide +kernel
theorem dX1_measure_94 : decode cX1_measure 94 = .ok (.goto (-82), 3) := by decide +kernel
theorem dX1_measure_97 : decode cX1_measure 97 = .ok (.return_, 1) := by decide +kernel
def L_X1_measure_12 (d : Nat) (v0 : Option Nm) (v1 : Option Nm) (v2 : Int32) (h : MH) (u : Nat) (Q : MH → Prop) : Prop := T u_X1_measure (d + 1) 12 [some (jR v0), some (jR v1), some (jI v2), none, none] [] h u (qV Q)
def L_X1_measure_64 (d : Nat) (v0 : Option Nm) (v1 : Option Nm) (v2 : Int32) (v3 : Option Nm) (v4 : Int32) (h : MH) (u : Nat) (Q : MH → Prop) : Prop := T u_X1_measure (d + 1) 64 [some (jR v0), some (jR v1), some (jI v2), some (jR v3), some (jI v4)] [] h u (qV Q)
def F_X1_measure (d : Nat) (v0 : Option Nm) (v1 : Option Nm) (h : MH) (u : Nat) (Q : MH → Prop) : Prop :=
  pV h v0 1 2 (jI 1) fun h =>
  pV h v0 1 3 (jI 1) fun h =>
  L_X1_measure_12 d v0 v1 0 h u Q
set_option maxRecDepth 20000 in
theorem E_X1_measure {d : Nat} {v0 : Option Nm} {v1 : Option Nm} {h : MH} {u : Nat} {Q : MH → Prop} (H : F_X1_measure d v0 v1 h u Q) : T u_X1_measure (d + 1) 0 [some (jR v0), some (jR v1), none, none, none] [] h u (qV Q) := by
  unfold F_X1_measure at H
  refine T_aload_n (pc := 0) dX1_measure_0 rfl rfl ?_
  refine T_iconst (pc := 1) (v := 1) dX1_measure_1 (by decide) ?_
  refine T_pV (pc := 2) fa_X1_88 dX1_measure_2 trivial (pV_mono (fun h H => ?_) H)
  refine T_aload_n (pc := 5) dX1_measure_5 rfl rfl ?_
  refine T_iconst (pc := 6) (v := 1) dX1_measure_6 (by decide) ?_
  refine T_pV (pc := 7) fa_X1_91 dX1_measure_7 trivial (pV_mono (fun h H => ?_) H)
  refine T_iconst (pc := 10) (v := 0) dX1_measure_10 (by decide) ?_
  refine T_istore_n (pc := 11) (ls2 := [some (jR v0), some (jR v1), some (jI 0), none, none]) dX1_measure_11 rfl (Nat.le_of_ble_eq_true rfl) rfl ?_
  exact T.forget H ⟨rfl, rfl, rfl, trivial⟩
def F_X1_measure_41 (d : Nat) (v0 : Option Nm) (v1 : Option Nm) (v2 : Int32) (h : MH) (u : Nat) (Q : MH → Prop) : Prop :=
  rc h v0 1 ∧ iR d u_X1_rowOf [jR v0, jR v1, jI v2] h u fun x1 h u =>
  nl x1 (
    L_X1_measure_12 d v0 v1 (v2 + 1) h u Q) (
    gI h x1 4 1 fun x2 =>
    if x2 = 8 then
      L_X1_measure_64 d v0 v1 v2 x1 0 h u Q
    else
      L_X1_measure_12 d v0 v1 (v2 + 1) h u Q)
set_option maxRecDepth 20000 in
theorem E_X1_measure_41 {d : Nat} {v0 : Option Nm} {v1 : Option Nm} {v2 : Int32} {h : MH} {u : Nat} {Q : MH → Prop} (H : F_X1_measure_41 d v0 v1 v2 h u Q) : T u_X1_measure (d + 1) 41 [some (jR v0), some (jR v1), some (jI v2), none, none] [] h u (qV Q) := by
  unfold F_X1_measure_41 at H
  refine T_aload_n (pc := 41) dX1_measure_41 rfl rfl ?_
  refine T_aload_n (pc := 42) dX1_measure_42 rfl rfl ?_
  refine T_iload_n (pc := 43) dX1_measure_43 rfl rfl ?_
  obtain ⟨H0, H⟩ := H
  refine T_iV (pc := 44) (ci := 1) (av := [jR v1, jI v2]) (rest := []) (o := v0) dX1_measure_44 mf_X1_rowOf c_3_169 c_3_171 pr_X1_rowOf rfl rfl (Nat.le_of_ble_eq_true rfl) rfl H0 (iR_k (iR_mono (fun x1 h u H => ?_) H))
  refine T_astore_n (pc := 47) (ls2 := [some (jR v0), some (jR v1), some (jI v2), some (jR x1), none]) dX1_measure_47 rfl (Nat.le_of_ble_eq_true rfl) rfl ?_
  refine T_aload_n (pc := 48) dX1_measure_48 rfl rfl ?_
  refine T_ifnull (pc := 49) (tgt := 91) dX1_measure_49 (by decide) (fun ho => ?_) (fun n ho => ?_)
  · replace H := nl_n ho H
    refine T_iinc (pc := 91) (v := v2 + 1) (ls2 := [some (jR v0), some (jR v1), some (jI (v2 + 1)), some (jR x1), none]) dX1_measure_91 rfl rfl (Nat.le_of_ble_eq_true rfl) rfl ?_
    refine T_goto (pc := 94) (tgt := 12) dX1_measure_94 (by decide) ?_
    exact T.forget H ⟨rfl, rfl, rfl, trivial⟩
  · replace H := nl_s ho H
    refine T_aload_n (pc := 52) dX1_measure_52 rfl rfl ?_
    refine T_gI (pc := 53) fa_X1_98 dX1_measure_53 (gI_mono (fun x2 H => ?_) H)
    refine T_bipush (pc := 56) (v := 8) dX1_measure_56 (by decide) ?_
    refine T_icmp_ne (pc := 58) (tgt := 91) dX1_measure_58 (by decide) (fun hc => ?_) (fun hc => ?_)
    · rw [if_neg hc] at H
      refine T_iinc (pc := 91) (v := v2 + 1) (ls2 := [some (jR v0), some (jR v1), some (jI (v2 + 1)), some (jR x1), none]) dX1_measure_91 rfl rfl (Nat.le_of_ble_eq_true rfl) rfl ?_
      refine T_goto (pc := 94) (tgt := 12) dX1_measure_94 (by decide) ?_
      exact T.forget H ⟨rfl, rfl, rfl, trivial⟩
    · rw [if_pos hc] at H
      refine T_iconst (pc := 61) (v := 0) dX1_measure_61 (by decide) ?_
      refine T_istore (pc := 62) (ls2 := [some (jR v0), some (jR v1), some (jI v2), some (jR x1), some (jI 0)]) dX1_measure_62 (Nat.le_of_ble_eq_true rfl) rfl ?_
      exact T.forget H ⟨rfl, rfl, rfl, rfl, rfl, trivial⟩
def F_X1_measure_12 (d : Nat) (v0 : Option Nm) (v1 : Option Nm) (v2 : Int32) (h : MH) (u : Nat) (Q : MH → Prop) : Prop :=
  gI h v1 2 4 fun x1 =>
  if x1 ≤ v2 then
    Q h
  else
    gR h v1 2 2 fun x2 =>
    aI .int h x2 v2 fun x3 =>
    if x3 = 8 then
      gR h v0 1 1 fun x4 =>
      aL h x4 v2 fun x5 =>
      rc h v0 1 ∧ iV d u_X1_measureThing [jR v0, jL x5] h u fun h u =>
      F_X1_measure_41 d v0 v1 v2 h u Q
    else
      F_X1_measure_41 d v0 v1 v2 h u Q
set_option maxRecDepth 20000 in
theorem E_X1_measure_12 {d : Nat} {v0 : Option Nm} {v1 : Option Nm} {v2 : Int32} {h : MH} {u : Nat} {Q : MH → Prop} (H : F_X1_measure_12 d v0 v1 v2 h u Q) : T u_X1_measure (d + 1) 12 [some (jR v0), some (jR v1), some (jI v2), none, none] [] h u (qV Q) := by
  unfold F_X1_measure_12 at H
  refine T_iload_n (pc := 12) dX1_measure_12 rfl rfl ?_
  refine T_aload_n (pc := 13) dX1_measure_13 rfl rfl ?_
  refine T_gI (pc := 14) fa_X1_19 dX1_measure_14 (gI_mono (fun x1 H => ?_) H)
  refine T_icmp_ge (pc := 17) (tgt := 97) dX1_measure_17 (by decide) (fun hc => ?_) (fun hc => ?_)
  · rw [if_pos hc] at H
    exact T_return (pc := 97) rfl dX1_measure_97 H
  · rw [if_neg hc] at H
    refine T_aload_n (pc := 20) dX1_measure_20 rfl rfl ?_
    refine T_gR (pc := 21) fa_X1_25 dX1_measure_21 (gR_mono (fun x2 H => ?_) H)
    refine T_iload_n (pc := 24) dX1_measure_24 rfl rfl ?_
    refine T_aI (pc := 25) dX1_measure_25 (aI_mono (fun x3 H => ?_) H)
    refine T_bipush (pc := 26) (v := 8) dX1_measure_26 (by decide) ?_
    refine T_icmp_ne (pc := 28) (tgt := 41) dX1_measure_28 (by decide) (fun hc => ?_) (fun hc => ?_)
    · rw [if_neg hc] at H
      exact T.forget (E_X1_measure_41 H) ⟨rfl, rfl, rfl, trivial⟩
    · rw [if_pos hc] at H
      refine T_aload_n (pc := 31) dX1_measure_31 rfl rfl ?_
      refine T_aload_n (pc := 32) dX1_measure_32 rfl rfl ?_
      refine T_gR (pc := 33) fa_X1_15 dX1_measure_33 (gR_mono (fun x4 H => ?_) H)
      refine T_iload_n (pc := 36) dX1_measure_36 rfl rfl ?_
      refine T_aL (pc := 37) dX1_measure_37 (aL_mono (fun x5 H => ?_) H)
      obtain ⟨H0, H⟩ := H
      refine T_iV (pc := 38) (ci := 1) (av := [jL x5]) (rest := []) (o := v0) dX1_measure_38 mf_X1_measureThing c_3_203 c_3_205 pr_X1_measureThing rfl rfl (Nat.le_of_ble_eq_true rfl) rfl H0 (iV_k (iV_mono (fun h u H => ?_) H))
      exact T.forget (E_X1_measure_41 H) ⟨rfl, rfl, rfl, trivial⟩
def F_X1_measure_64 (d : Nat) (v0 : Option Nm) (v1 : Option Nm) (v2 : Int32) (v3 : Option Nm) (v4 : Int32) (h : MH) (u : Nat) (Q : MH → Prop) : Prop :=
  gR h v3 4 2 fun x1 =>
  aN h x1 fun x2 =>
  if x2 ≤ v4 then
    L_X1_measure_12 d v0 v1 (v2 + 1) h u Q
  else
    gR h v3 4 2 fun x3 =>
    aL h x3 v4 fun x4 =>
    rc h v0 1 ∧ iV d u_X1_measureThing [jR v0, jL x4] h u fun h u =>
    L_X1_measure_64 d v0 v1 v2 v3 (v4 + 1) h u Q
set_option maxRecDepth 20000 in
theorem E_X1_measure_64 {d : Nat} {v0 : Option Nm} {v1 : Option Nm} {v2 : Int32} {v3 : Option Nm} {v4 : Int32} {h : MH} {u : Nat} {Q : MH → Prop} (H : F_X1_measure_64 d v0 v1 v2 v3 v4 h u Q) : T u_X1_measure (d + 1) 64 [some (jR v0), some (jR v1), some (jI v2), some (jR v3), some (jI v4)] [] h u (qV Q) := by
  unfold F_X1_measure_64 at H
  refine T_iload (pc := 64) dX1_measure_64 rfl ?_
  refine T_aload_n (pc := 66) dX1_measure_66 rfl rfl ?_
  refine T_gR (pc := 67) fa_X1_103 dX1_measure_67 (gR_mono (fun x1 H => ?_) H)
  refine T_aN (pc := 70) dX1_measure_70 (aN_mono (fun x2 H => ?_) H)
  refine T_icmp_ge (pc := 71) (tgt := 91) dX1_measure_71 (by decide) (fun hc => ?_) (fun hc => ?_)
  · rw [if_pos hc] at H
    refine T_iinc (pc := 91) (v := v2 + 1) (ls2 := [some (jR v0), some (jR v1), some (jI (v2 + 1)), some (jR v3), some (jI v4)]) dX1_measure_91 rfl rfl (Nat.le_of_ble_eq_true rfl) rfl ?_
    refine T_goto (pc := 94) (tgt := 12) dX1_measure_94 (by decide) ?_
    exact T.forget H ⟨rfl, rfl, rfl, trivial⟩
  · rw [if_neg hc] at H
    refine T_aload_n (pc := 74) dX1_measure_74 rfl rfl ?_
    refine T_aload_n (pc := 75) dX1_measure_75 rfl rfl ?_
    refine T_gR (pc := 76) fa_X1_103 dX1_measure_76 (gR_mono (fun x3 H => ?_) H)
    refine T_iload (pc := 79) dX1_measure_79 rfl ?_
    refine T_aL (pc := 81) dX1_measure_81 (aL_mono (fun x4 H => ?_) H)
    obtain ⟨H0, H⟩ := H
    refine T_iV (pc := 82) (ci := 1) (av := [jL x4]) (rest := []) (o := v0) dX1_measure_82 mf_X1_measureThing c_3_203 c_3_205 pr_X1_measureThing rfl rfl (Nat.le_of_ble_eq_true rfl) rfl H0 (iV_k (iV_mono (fun h u H => ?_) H))
    refine T_iinc (pc := 85) (v := v4 + 1) (ls2 := [some (jR v0), some (jR v1), some (jI v2), some (jR v3), some (jI (v4 + 1))]) dX1_measure_85 rfl rfl (Nat.le_of_ble_eq_true rfl) rfl ?_
    refine T_goto (pc := 88) (tgt := 64) dX1_measure_88 (by decide) ?_
    exact T.forget H ⟨rfl, rfl, rfl, rfl, rfl, trivial⟩
theorem I_X1_measure {d : Nat} {v0 : Option Nm} {v1 : Option Nm} {h : MH} {u : Nat} {K : MH → Nat → Prop} (u1 : Nat) (hu : u1 ≤ u) (H : F_X1_measure d v0 v1 h u1 (fun h2 => K h2 (u - u1))) : iV (d + 1) u_X1_measure [jR v0, jR v1] h u K := inv.of u1 hu (Ct.of (by decide +kernel) rfl (Nat.le_of_ble_eq_true rfl) rfl (E_X1_measure H))
theorem dX1_settle_0 : decode cX1_settle 0 = .ok (.aload_n 1, 1) := by decide +kernel
theorem dX1_settle_1 : decode cX1_settle 1 = .ok (.getfield 19, 3) := by decide +kernel
theorem dX1_settle_4 : decode cX1_settle 4 = .ok (.newarray .long, 2) := by decide +kernel
theorem dX1_settle_6 : decode cX1_settle 6 = .ok (.astore_n 3, 1) := by decide +kernel
theorem dX1_settle_7 : decode cX1_settle 7 = .ok (.iconst 0, 1) := by decide +kernel
theorem dX1_settle_8 : decode cX1_settle 8 = .ok (.istore 4, 2) := by decide +kernel
theorem dX1_settle_10 : decode cX1_settle 10 = .ok (.iload 4, 2) := by decide +kernel
theorem dX1_settle_12 : decode cX1_settle 12 = .ok (.aload_n 1, 1) := by decide +kernel
theorem dX1_settle_13 : decode cX1_settle 13 = .ok (.getfield 19, 3) := by decide +kernel
theorem dX1_settle_16 : decode cX1_settle 16 = .ok (.if_icmp .ge 69, 3) := by decide +kernel
theorem dX1_settle_19 : decode cX1_settle 19 = .ok (.aload_n 0, 1) := by decide +kernel
theorem dX1_settle_20 : decode cX1_settle 20 = .ok (.aload_n 1, 1) := by decide +kernel
theorem dX1_settle_21 : decode cX1_settle 21 = .ok (.iload 4, 2) := by decide +kernel
theorem dX1_settle_23 : decode cX1_settle 23 = .ok (.invokevirtual 69, 3) := by decide +kernel
theorem dX1_settle_26 : decode cX1_settle 26 = .ok (.astore 5, 2) := by decide +kernel
theorem dX1_settle_28 : decode cX1_settle 28 = .ok (.aload_n 3, 1) := by decide +kernel
theorem dX1_settle_29 : decode cX1_settle 29 = .ok (.iload 4, 2) := by decide +kernel
theorem dX1_settle_31 : decode cX1_settle 31 = .ok (.aload 5, 2) := by decide +kernel
theorem dX1_settle_33 : decode cX1_settle 33 = .ok (.iload_n 2, 1) := by decide +kernel
theorem dX1_settle_34 : decode cX1_settle 34 = .ok (.invokestatic 73, 3) := by decide +kernel
theorem dX1_settle_37 : decode cX1_settle 37 = .ok (.ifCond .eq 34, 3) := by decide +kernel
theorem dX1_settle_40 : decode cX1_settle 40 = .ok (.aload_n 0, 1) := by decide +kernel
theorem dX1_settle_41 : decode cX1_settle 41 = .ok (.getfield 9, 3) := by decide +kernel
theorem dX1_settle_44 : decode cX1_settle 44 = .ok (.aload 5, 2) := by decide +kernel
theorem dX1_settle_46 : decode cX1_settle 46 = .ok (.aload 5, 2) := by decide +kernel
theorem dX1_settle_48 : decode cX1_settle 48 = .ok (.getfield 98, 3) := by decide +kernel
theorem dX1_settle_51 : decode cX1_settle 51 = .ok (.bipush 8, 2) := by decide +kernel
theorem dX1_settle_53 : decode cX1_settle 53 = .ok (.if_icmp .ne 7, 3) := by decide +kernel
theorem dX1_settle_56 : decode cX1_settle 56 = .ok (.iconst 1, 1) := by decide +kernel
theorem dX1_settle_57 : decode cX1_settle 57 = .ok (.goto 4, 3) := by decide +kernel
theorem dX1_settle_60 : decode cX1_settle 60 = .ok (.iconst 0, 1) := by decide +kernel
theorem dX1_settle_61 : decode cX1_settle 61 = .ok (.invokevirtual 106, 3) := by decide +kernel
theorem dX1_settle_64 : decode cX1_settle 64 = .ok (.getfield 112, 3) := by decide +kernel
theorem dX1_settle_67 : decode cX1_settle 67 = .ok (.i2l, 1) := by decide +kernel
theorem dX1_settle_68 : decode cX1_settle 68 = .ok (.goto 10, 3) := by decide +kernel
theorem dX1_settle_71 : decode cX1_settle 71 = .ok (.aload_n 0, 1) := by decide +kernel
theorem dX1_settle_72 : decode cX1_settle 72 = .ok (.getfield 15, 3) := by decide +kernel
theorem dX1_settle_75 : decode cX1_settle 75 = .ok (.iload 4, 2) := by decide +kernel
theorem dX1_settle_77 : decode cX1_settle 77 = .ok (.laload, 1) := by decide +kernel
theorem dX1_settle_78 : decode cX1_settle 78 = .ok (.lastore, 1) := by decide +kernel
theorem dX1_settle_79 : decode cX1_settle 79 = .ok (.iinc 4 1, 3) := by decide +kernel
theorem dX1_settle_82 : decode cX1_settle 82 = .ok (.goto (-72), 3) := by decide +kernel
theorem dX1_settle_85 : decode cX1_settle 85 = .ok (.aload_n 3, 1) := by decide +kernel
theorem dX1_settle_86 : decode cX1_settle 86 = .ok (.areturn, 1) := by decide +kernel
def L_X1_settle_10 (d : Nat) (v0 : Option Nm) (v1 : Option Nm) (v2 : Int32) (v3 : Option Nm) (v4 : Int32) (h : MH) (u : Nat) (Q : Option Nm → MH → Prop) : Prop := T u_X1_settle (d + 1) 10 [some (jR v0), some (jR v1), some (jI v2), some (jR v3), some (jI v4), none] [] h u (qR Q)
def F_X1_settle (d : Nat) (v0 : Option Nm) (v1 : Option Nm) (v2 : Int32) (h : MH) (u : Nat) (Q : Option Nm → MH → Prop) : Prop :=
  gI h v1 2 4 fun x1 =>
  nA .long h u x1 fun x2 h u =>
  L_X1_settle_10 d v0 v1 v2 (some x2) 0 h u Q
set_option maxRecDepth 20000 in
theorem E_X1_settle {d : Nat} {v0 : Option Nm} {v1 : Option Nm} {v2 : Int32} {h : MH} {u : Nat} {Q : Option Nm → MH → Prop} (H : F_X1_settle d v0 v1 v2 h u Q) : T u_X1_settle (d + 1) 0 [some (jR v0), some (jR v1), some (jI v2), none, none, none] [] h u (qR Q) := by
  unfold F_X1_settle at H
  refine T_aload_n (pc := 0) dX1_settle_0 rfl rfl ?_
  refine T_gI (pc := 1) fa_X1_19 dX1_settle_1 (gI_mono (fun x1 H => ?_) H)
  refine T_nA (pc := 4) dX1_settle_4 rfl (by decide) c_1_66 (nA_mono (fun x2 h u H => ?_) H)
  refine T_astore_n (pc := 6) (ls2 := [some (jR v0), some (jR v1), some (jI v2), some (jR (some x2)), none, none]) dX1_settle_6 rfl (Nat.le_of_ble_eq_true rfl) rfl ?_
  refine T_iconst (pc := 7) (v := 0) dX1_settle_7 (by decide) ?_
  refine T_istore (pc := 8) (ls2 := [some (jR v0), some (jR v1), some (jI v2), some (jR (some x2)), some (jI 0), none]) dX1_settle_8 (Nat.le_of_ble_eq_true rfl) rfl ?_
  exact T.forget H ⟨rfl, rfl, rfl, rfl, rfl, trivial⟩
def F_X1_settle_61 (d : Nat) (v0 : Option Nm) (v1 : Option Nm) (v2 : Int32) (v3 : Option Nm) (v4 : Int32) (s0 : Option Nm) (s1 : Int32) (s2 : Option Nm) (s3 : Option Nm) (s4 : Int32) (h : MH) (u : Nat) (Q : Option Nm → MH → Prop) : Prop :=
  rc h s2 6 ∧ iR d u_X7_addTwin [jR s2, jR s3, jI s4] h u fun x1 h u =>
  gI h x1 4 0 fun x2 =>
  sV .long h s0 s1 (jL (x2.toInt64)) fun h =>
  L_X1_settle_10 d v0 v1 v2 v3 (v4 + 1) h u Q
set_option maxRecDepth 20000 in
theorem E_X1_settle_61 {d : Nat} {v0 : Option Nm} {v1 : Option Nm} {v2 : Int32} {v3 : Option Nm} {v4 : Int32} {s0 : Option Nm} {s1 : Int32} {s2 : Option Nm} {s3 : Option Nm} {s4 : Int32} {h : MH} {u : Nat} {Q : Option Nm → MH → Prop} (H : F_X1_settle_61 d v0 v1 v2 v3 v4 s0 s1 s2 s3 s4 h u Q) : T u_X1_settle (d + 1) 61 [some (jR v0), some (jR v1), some (jI v2), some (jR v3), some (jI v4), none] [jI s4, jR s3, jR s2, jI s1, jR s0] h u (qR Q) := by
  unfold F_X1_settle_61 at H
  obtain ⟨H0, H⟩ := H
  refine T_iV (pc := 61) (ci := 6) (av := [jR s3, jI s4]) (rest := [jI s1, jR s0]) (o := s2) dX1_settle_61 mf_X7_addTwin c_3_215 c_2_106 c_2_107 rfl rfl (Nat.le_of_ble_eq_true rfl) rfl H0 (iR_k (iR_mono (fun x1 h u H => ?_) H))
  refine T_gI (pc := 64) fa_X1_112 dX1_settle_64 (gI_mono (fun x2 H => ?_) H)
  refine T_i2l (pc := 67) dX1_settle_67 ?_
  refine T_goto (pc := 68) (tgt := 78) dX1_settle_68 (by decide) ?_
  refine T_sL (pc := 78) dX1_settle_78 (sV_mono (fun h H => ?_) H)
  refine T_iinc (pc := 79) (v := v4 + 1) (ls2 := [some (jR v0), some (jR v1), some (jI v2), some (jR v3), some (jI (v4 + 1)), none]) dX1_settle_79 rfl rfl (Nat.le_of_ble_eq_true rfl) rfl ?_
  refine T_goto (pc := 82) (tgt := 10) dX1_settle_82 (by decide) ?_
  exact T.forget H ⟨rfl, rfl, rfl, rfl, rfl, trivial⟩
def F_X1_settle_10 (d : Nat) (v0 : Option Nm) (v1 : Option Nm) (v2 : Int32) (v3 : Option Nm) (v4 : Int32) (h : MH) (u : Nat) (Q : Option Nm → MH → Prop) : Prop :=
  gI h v1 2 4 fun x1 =>
  if x1 ≤ v4 then
    Q v3 h
  else
    rc h v0 1 ∧ iR d u_X1_rowOf [jR v0, jR v1, jI v4] h u fun x2 h u =>
    iI d u_X1_needsTwin [jR x2, jI v2] h u fun x3 h u =>
    if x3 = 0 then
      gR h v0 1 1 fun x4 =>
      aL h x4 v4 fun x5 =>
      sV .long h v3 v4 (jL x5) fun h =>
      L_X1_settle_10 d v0 v1 v2 v3 (v4 + 1) h u Q
    else
      gR h v0 1 0 fun x6 =>
      gI h x2 4 1 fun x7 =>
      if x7 = 8 then
        F_X1_settle_61 d v0 v1 v2 v3 v4 v3 v4 x6 x2 1 h u Q
      else
        F_X1_settle_61 d v0 v1 v2 v3 v4 v3 v4 x6 x2 0 h u Q
set_option maxRecDepth 20000 in
theorem E_X1_settle_10 {d : Nat} {v0 : Option Nm} {v1 : Option Nm} {v2 : Int32} {v3 : Option Nm} {v4 : Int32} {h : MH} {u : Nat} {Q : Option Nm → MH → Prop} (H : F_X1_settle_10 d v0 v1 v2 v3 v4 h u Q) : T u_X1_settle (d + 1) 10 [some (jR v0), some (jR v1), some (jI v2), some (jR v3), some (jI v4), none] [] h u (qR Q) := by
  unfold F_X1_settle_10 at H
  refine T_iload (pc := 10) dX1_settle_10 rfl ?_
  refine T_aload_n (pc := 12) dX1_settle_12 rfl rfl ?_
  refine T_gI (pc := 13) fa_X1_19 dX1_settle_13 (gI_mono (fun x1 H => ?_) H)
  refine T_icmp_ge (pc := 16) (tgt := 85) dX1_settle_16 (by decide) (fun hc => ?_) (fun hc => ?_)
  · rw [if_pos hc] at H
    refine T_aload_n (pc := 85) dX1_settle_85 rfl rfl ?_
    exact T_areturn (pc := 86) rfl (Or.inr ⟨_, rfl⟩) dX1_settle_86 H
  · rw [if_neg hc] at H
    refine T_aload_n (pc := 19) dX1_settle_19 rfl rfl ?_
    refine T_aload_n (pc := 20) dX1_settle_20 rfl rfl ?_
    refine T_iload (pc := 21) dX1_settle_21 rfl ?_
    obtain ⟨H0, H⟩ := H
    refine T_iV (pc := 23) (ci := 1) (av := [jR v1, jI v4]) (rest := []) (o := v0) dX1_settle_23 mf_X1_rowOf c_3_169 c_3_171 pr_X1_rowOf rfl rfl (Nat.le_of_ble_eq_true rfl) rfl H0 (iR_k (iR_mono (fun x2 h u H => ?_) H))
    refine T_astore (pc := 26) (ls2 := [some (jR v0), some (jR v1), some (jI v2), some (jR v3), some (jI v4), some (jR x2)]) dX1_settle_26 (Nat.le_of_ble_eq_true rfl) rfl ?_
    refine T_aload_n (pc := 28) dX1_settle_28 rfl rfl ?_
    refine T_iload (pc := 29) dX1_settle_29 rfl ?_
    refine T_aload (pc := 31) dX1_settle_31 rfl ?_
    refine T_iload_n (pc := 33) dX1_settle_33 rfl rfl ?_
    refine T_invS (pc := 34) (av := [jR x2, jI v2]) (rest := [jI v4, jR v3]) dX1_settle_34 mf_X1_needsTwin c_3_174 c_3_175 rfl (Nat.le_of_ble_eq_true rfl) rfl (iI_k (iI_mono (fun x3 h u H => ?_) H))
    refine T_if_eq (pc := 37) (tgt := 71) dX1_settle_37 (by decide) (fun hc => ?_) (fun hc => ?_)
    · rw [if_pos hc] at H
      refine T_aload_n (pc := 71) dX1_settle_71 rfl rfl ?_
      refine T_gR (pc := 72) fa_X1_15 dX1_settle_72 (gR_mono (fun x4 H => ?_) H)
      refine T_iload (pc := 75) dX1_settle_75 rfl ?_
      refine T_aL (pc := 77) dX1_settle_77 (aL_mono (fun x5 H => ?_) H)
      refine T_sL (pc := 78) dX1_settle_78 (sV_mono (fun h H => ?_) H)
      refine T_iinc (pc := 79) (v := v4 + 1) (ls2 := [some (jR v0), some (jR v1), some (jI v2), some (jR v3), some (jI (v4 + 1)), some (jR x2)]) dX1_settle_79 rfl rfl (Nat.le_of_ble_eq_true rfl) rfl ?_
      refine T_goto (pc := 82) (tgt := 10) dX1_settle_82 (by decide) ?_
      exact T.forget H ⟨rfl, rfl, rfl, rfl, rfl, trivial⟩
    · rw [if_neg hc] at H
      refine T_aload_n (pc := 40) dX1_settle_40 rfl rfl ?_
      refine T_gR (pc := 41) fa_X1_9 dX1_settle_41 (gR_mono (fun x6 H => ?_) H)
      refine T_aload (pc := 44) dX1_settle_44 rfl ?_
      refine T_aload (pc := 46) dX1_settle_46 rfl ?_
      refine T_gI (pc := 48) fa_X1_98 dX1_settle_48 (gI_mono (fun x7 H => ?_) H)
      refine T_bipush (pc := 51) (v := 8) dX1_settle_51 (by decide) ?_
      refine T_icmp_ne (pc := 53) (tgt := 60) dX1_settle_53 (by decide) (fun hc => ?_) (fun hc => ?_)
      · rw [if_neg hc] at H
        refine T_iconst (pc := 60) (v := 0) dX1_settle_60 (by decide) ?_
        exact T.forget (E_X1_settle_61 H) ⟨rfl, rfl, rfl, rfl, rfl, trivial⟩
      · rw [if_pos hc] at H
        refine T_iconst (pc := 56) (v := 1) dX1_settle_56 (by decide) ?_
        refine T_goto (pc := 57) (tgt := 61) dX1_settle_57 (by decide) ?_
        exact T.forget (E_X1_settle_61 H) ⟨rfl, rfl, rfl, rfl, rfl, trivial⟩
theorem I_X1_settle {d : Nat} {v0 : Option Nm} {v1 : Option Nm} {v2 : Int32} {h : MH} {u : Nat} {K : Option Nm → MH → Nat → Prop} (u1 : Nat) (hu : u1 ≤ u) (H : F_X1_settle d v0 v1 v2 h u1 (fun x h2 => K x h2 (u - u1))) : iR (d + 1) u_X1_settle [jR v0, jR v1, jI v2] h u K := inv.of u1 hu (Ct.of (by decide +kernel) rfl (Nat.le_of_ble_eq_true rfl) rfl (E_X1_settle H))
theorem dX1_rowOf_0 : decode cX1_rowOf 0 = .ok (.aload_n 1, 1) := by decide +kernel
theorem dX1_rowOf_1 : decode cX1_rowOf 1 = .ok (.getfield 25, 3) := by decide +kernel
theorem dX1_rowOf_4 : decode cX1_rowOf 4 = .ok (.iload_n 2, 1) := by decide +kernel
theorem dX1_rowOf_5 : decode cX1_rowOf 5 = .ok (.iaload, 1) := by decide +kernel
theorem dX1_rowOf_6 : decode cX1_rowOf 6 = .ok (.bipush 9, 2) := by decide +kernel
theorem dX1_rowOf_8 : decode cX1_rowOf 8 = .ok (.if_icmp .ne 19, 3) := by decide +kernel
theorem dX1_rowOf_11 : decode cX1_rowOf 11 = .ok (.aload_n 0, 1) := by decide +kernel
theorem dX1_rowOf_12 : decode cX1_rowOf 12 = .ok (.getfield 9, 3) := by decide +kernel
theorem dX1_rowOf_15 : decode cX1_rowOf 15 = .ok (.aload_n 0, 1) := by decide +kernel
theorem dX1_rowOf_16 : decode cX1_rowOf 16 = .ok (.getfield 15, 3) := by decide +kernel
theorem dX1_rowOf_19 : decode cX1_rowOf 19 = .ok (.iload_n 2, 1) := by decide +kernel
theorem dX1_rowOf_20 : decode cX1_rowOf 20 = .ok (.laload, 1) := by decide +kernel
theorem dX1_rowOf_21 : decode cX1_rowOf 21 = .ok (.invokevirtual 115, 3) := by decide +kernel
theorem dX1_rowOf_24 : decode cX1_rowOf 24 = .ok (.goto 4, 3) := by decide +kernel
theorem dX1_rowOf_27 : decode cX1_rowOf 27 = .ok (.aconst_null, 1) := by decide +kernel
theorem dX1_rowOf_28 : decode cX1_rowOf 28 = .ok (.areturn, 1) := by decide +kernel
def F_X1_rowOf (d : Nat) (v0 : Option Nm) (v1 : Option Nm) (v2 : Int32) (h : MH) (u : Nat) (Q : Option Nm → MH → Prop) : Prop :=
  gR h v1 2 2 fun x1 =>
  aI .int h x1 v2 fun x2 =>
  if x2 = 9 then
    gR h v0 1 0 fun x3 =>
    gR h v0 1 1 fun x4 =>
    aL h x4 v2 fun x5 =>
    rc h x3 6 ∧ iR d u_X7_findRow [jR x3, jL x5] h u fun x6 h u =>
    Q x6 h
  else
    Q none h
set_option maxRecDepth 20000 in
theorem E_X1_rowOf {d : Nat} {v0 : Option Nm} {v1 : Option Nm} {v2 : Int32} {h : MH} {u : Nat} {Q : Option Nm → MH → Prop} (H : F_X1_rowOf d v0 v1 v2 h u Q) : T u_X1_rowOf (d + 1) 0 [some (jR v0), some (jR v1), some (jI v2)] [] h u (qR Q) := by
  unfold F_X1_rowOf at H
  refine T_aload_n (pc := 0) dX1_rowOf_0 rfl rfl ?_
  refine T_gR (pc := 1) fa_X1_25 dX1_rowOf_1 (gR_mono (fun x1 H => ?_) H)
  refine T_iload_n (pc := 4) dX1_rowOf_4 rfl rfl ?_
  refine T_aI (pc := 5) dX1_rowOf_5 (aI_mono (fun x2 H => ?_) H)
  refine T_bipush (pc := 6) (v := 9) dX1_rowOf_6 (by decide) ?_
  refine T_icmp_ne (pc := 8) (tgt := 27) dX1_rowOf_8 (by decide) (fun hc => ?_) (fun hc => ?_)
  · rw [if_neg hc] at H
    refine T_null (pc := 27) dX1_rowOf_27 ?_
    exact T_areturn (pc := 28) rfl (Or.inl ⟨_, rfl⟩) dX1_rowOf_28 H
  · rw [if_pos hc] at H
    refine T_aload_n (pc := 11) dX1_rowOf_11 rfl rfl ?_
    refine T_gR (pc := 12) fa_X1_9 dX1_rowOf_12 (gR_mono (fun x3 H => ?_) H)
    refine T_aload_n (pc := 15) dX1_rowOf_15 rfl rfl ?_
    refine T_gR (pc := 16) fa_X1_15 dX1_rowOf_16 (gR_mono (fun x4 H => ?_) H)
    refine T_iload_n (pc := 19) dX1_rowOf_19 rfl rfl ?_
    refine T_aL (pc := 20) dX1_rowOf_20 (aL_mono (fun x5 H => ?_) H)
    obtain ⟨H0, H⟩ := H
    refine T_iV (pc := 21) (ci := 6) (av := [jL x5]) (rest := []) (o := x3) dX1_rowOf_21 mf_X7_findRow c_3_173 c_2_2 c_2_3 rfl rfl (Nat.le_of_ble_eq_true rfl) rfl H0 (iR_k (iR_mono (fun x6 h u H => ?_) H))
    refine T_goto (pc := 24) (tgt := 28) dX1_rowOf_24 (by decide) ?_
    exact T_areturn (pc := 28) rfl (Or.inl ⟨_, rfl⟩) dX1_rowOf_28 H
theorem I_X1_rowOf {d : Nat} {v0 : Option Nm} {v1 : Option Nm} {v2 : Int32} {h : MH} {u : Nat} {K : Option Nm → MH → Nat → Prop} (u1 : Nat) (hu : u1 ≤ u) (H : F_X1_rowOf d v0 v1 v2 h u1 (fun x h2 => K x h2 (u - u1))) : iR (d + 1) u_X1_rowOf [jR v0, jR v1, jI v2] h u K := inv.of u1 hu (Ct.of (by decide +kernel) rfl (Nat.le_of_ble_eq_true rfl) rfl (E_X1_rowOf H))
theorem dX1_needsTwin_0 : decode cX1_needsTwin 0 = .ok (.aload_n 0, 1) := by decide +kernel
theorem dX1_needsTwin_1 : decode cX1_needsTwin 1 = .ok (.ifnull 28, 3) := by decide +kernel
theorem dX1_needsTwin_4 : decode cX1_needsTwin 4 = .ok (.aload_n 0, 1) := by decide +kernel
theorem dX1_needsTwin_5 : decode cX1_needsTwin 5 = .ok (.getfield 119, 3) := by decide +kernel
theorem dX1_needsTwin_8 : decode cX1_needsTwin 8 = .ok (.ifCond .ne 21, 3) := by decide +kernel
theorem dX1_needsTwin_11 : decode cX1_needsTwin 11 = .ok (.aload_n 0, 1) := by decide +kernel
theorem dX1_needsTwin_12 : decode cX1_needsTwin 12 = .ok (.getfield 98, 3) := by decide +kernel
theorem dX1_needsTwin_15 : decode cX1_needsTwin 15 = .ok (.bipush 8, 2) := by decide +kernel
theorem dX1_needsTwin_17 : decode cX1_needsTwin 17 = .ok (.if_icmp .eq 8, 3) := by decide +kernel
theorem dX1_needsTwin_20 : decode cX1_needsTwin 20 = .ok (.iload_n 1, 1) := by decide +kernel
theorem dX1_needsTwin_21 : decode cX1_needsTwin 21 = .ok (.iconst 4, 1) := by decide +kernel
theorem dX1_needsTwin_22 : decode cX1_needsTwin 22 = .ok (.if_icmp .ne 7, 3) := by decide +kernel
theorem dX1_needsTwin_25 : decode cX1_needsTwin 25 = .ok (.iconst 1, 1) := by decide +kernel
theorem dX1_needsTwin_26 : decode cX1_needsTwin 26 = .ok (.goto 4, 3) := by decide +kernel
theorem dX1_needsTwin_29 : decode cX1_needsTwin 29 = .ok (.iconst 0, 1) := by decide +kernel
theorem dX1_needsTwin_30 : decode cX1_needsTwin 30 = .ok (.ireturn, 1) := by decide +kernel
def F_X1_needsTwin (d : Nat) (v0 : Option Nm) (v1 : Int32) (h : MH) (u : Nat) (Q : Int32 → MH → Prop) : Prop :=
  nl v0 (
    nz 0 ∧ Q 0 h) (
    gI h v0 4 3 fun x1 =>
    if x1 = 0 then
      gI h v0 4 1 fun x2 =>
      if x2 = 8 then
        nz 1 ∧ Q 1 h
      else
        if v1 = 4 then
          nz 1 ∧ Q 1 h
        else
          nz 0 ∧ Q 0 h
    else
      nz 0 ∧ Q 0 h)
set_option maxRecDepth 20000 in
theorem E_X1_needsTwin {d : Nat} {v0 : Option Nm} {v1 : Int32} {h : MH} {u : Nat} {Q : Int32 → MH → Prop} (H : F_X1_needsTwin d v0 v1 h u Q) : T u_X1_needsTwin d 0 [some (jR v0), some (jI v1)] [] h u (qI Q) := by
  unfold F_X1_needsTwin at H
  refine T_aload_n (pc := 0) dX1_needsTwin_0 rfl rfl ?_
  refine T_ifnull (pc := 1) (tgt := 29) dX1_needsTwin_1 (by decide) (fun ho => ?_) (fun n ho => ?_)
  · replace H := nl_n ho H
    refine T_iconst (pc := 29) (v := 0) dX1_needsTwin_29 (by decide) ?_
    exact T_ireturn (pc := 30) rfl (nz_nar H.1) dX1_needsTwin_30 H.2
  · replace H := nl_s ho H
    refine T_aload_n (pc := 4) dX1_needsTwin_4 rfl rfl ?_
    refine T_gI (pc := 5) fa_X1_119 dX1_needsTwin_5 (gI_mono (fun x1 H => ?_) H)
    refine T_if_ne (pc := 8) (tgt := 29) dX1_needsTwin_8 (by decide) (fun hc => ?_) (fun hc => ?_)
    · rw [if_neg hc] at H
      refine T_iconst (pc := 29) (v := 0) dX1_needsTwin_29 (by decide) ?_
      exact T_ireturn (pc := 30) rfl (nz_nar H.1) dX1_needsTwin_30 H.2
    · rw [if_pos hc] at H
      refine T_aload_n (pc := 11) dX1_needsTwin_11 rfl rfl ?_
      refine T_gI (pc := 12) fa_X1_98 dX1_needsTwin_12 (gI_mono (fun x2 H => ?_) H)
      refine T_bipush (pc := 15) (v := 8) dX1_needsTwin_15 (by decide) ?_
      refine T_icmp_eq (pc := 17) (tgt := 25) dX1_needsTwin_17 (by decide) (fun hc => ?_) (fun hc => ?_)
      · rw [if_pos hc] at H
        refine T_iconst (pc := 25) (v := 1) dX1_needsTwin_25 (by decide) ?_
        refine T_goto (pc := 26) (tgt := 30) dX1_needsTwin_26 (by decide) ?_
        exact T_ireturn (pc := 30) rfl (nz_nar H.1) dX1_needsTwin_30 H.2
      · rw [if_neg hc] at H
        refine T_iload_n (pc := 20) dX1_needsTwin_20 rfl rfl ?_
        refine T_iconst (pc := 21) (v := 4) dX1_needsTwin_21 (by decide) ?_
        refine T_icmp_ne (pc := 22) (tgt := 29) dX1_needsTwin_22 (by decide) (fun hc => ?_) (fun hc => ?_)
        · rw [if_neg hc] at H
          refine T_iconst (pc := 29) (v := 0) dX1_needsTwin_29 (by decide) ?_
          exact T_ireturn (pc := 30) rfl (nz_nar H.1) dX1_needsTwin_30 H.2
        · rw [if_pos hc] at H
          refine T_iconst (pc := 25) (v := 1) dX1_needsTwin_25 (by decide) ?_
          refine T_goto (pc := 26) (tgt := 30) dX1_needsTwin_26 (by decide) ?_
          exact T_ireturn (pc := 30) rfl (nz_nar H.1) dX1_needsTwin_30 H.2
theorem I_X1_needsTwin {d : Nat} {v0 : Option Nm} {v1 : Int32} {h : MH} {u : Nat} {K : Int32 → MH → Nat → Prop} (u1 : Nat) (hu : u1 ≤ u) (H : F_X1_needsTwin d v0 v1 h u1 (fun x h2 => K x h2 (u - u1))) : iI d u_X1_needsTwin [jR v0, jI v1] h u K := inv.of u1 hu (Ct.of (by decide +kernel) rfl (Nat.le_of_ble_eq_true rfl) rfl (E_X1_needsTwin H))
theorem dX1_isFalling_0 : decode cX1_isFalling 0 = .ok (.aload_n 1, 1) := by decide +kernel
theorem dX1_isFalling_1 : decode cX1_isFalling 1 = .ok (.getfield 19, 3) := by decide +kernel
theorem dX1_isFalling_4 : decode cX1_isFalling 4 = .ok (.iconst 2, 1) := by decide +kernel
theorem dX1_isFalling_5 : decode cX1_isFalling 5 = .ok (.if_icmp .lt 31, 3) := by decide +kernel
theorem dX1_isFalling_8 : decode cX1_isFalling 8 = .ok (.aload_n 1, 1) := by decide +kernel
theorem dX1_isFalling_9 : decode cX1_isFalling 9 = .ok (.getfield 25, 3) := by decide +kernel
theorem dX1_isFalling_12 : decode cX1_isFalling 12 = .ok (.iconst 0, 1) := by decide +kernel
theorem dX1_isFalling_13 : decode cX1_isFalling 13 = .ok (.iaload, 1) := by decide +kernel
theorem dX1_isFalling_14 : decode cX1_isFalling 14 = .ok (.invokestatic 123, 3) := by decide +kernel
theorem dX1_isFalling_17 : decode cX1_isFalling 17 = .ok (.ifCond .eq 19, 3) := by decide +kernel
theorem dX1_isFalling_20 : decode cX1_isFalling 20 = .ok (.aload_n 1, 1) := by decide +kernel
theorem dX1_isFalling_21 : decode cX1_isFalling 21 = .ok (.getfield 25, 3) := by decide +kernel
theorem dX1_isFalling_24 : decode cX1_isFalling 24 = .ok (.iconst 1, 1) := by decide +kernel
theorem dX1_isFalling_25 : decode cX1_isFalling 25 = .ok (.iaload, 1) := by decide +kernel
theorem dX1_isFalling_26 : decode cX1_isFalling 26 = .ok (.invokestatic 123, 3) := by decide +kernel
theorem dX1_isFalling_29 : decode cX1_isFalling 29 = .ok (.ifCond .eq 7, 3) := by decide +kernel
theorem dX1_isFalling_32 : decode cX1_isFalling 32 = .ok (.iconst 1, 1) := by decide +kernel
theorem dX1_isFalling_33 : decode cX1_isFalling 33 = .ok (.goto 4, 3) := by decide +kernel
theorem dX1_isFalling_36 : decode cX1_isFalling 36 = .ok (.iconst 0, 1) := by decide +kernel
theorem dX1_isFalling_37 : decode cX1_isFalling 37 = .ok (.istore_n 2, 1) := by decide +kernel
theorem dX1_isFalling_38 : decode cX1_isFalling 38 = .ok (.iload_n 2, 1) := by decide +kernel
theorem dX1_isFalling_39 : decode cX1_isFalling 39 = .ok (.ifCond .eq 23, 3) := by decide +kernel
theorem dX1_isFalling_42 : decode cX1_isFalling 42 = .ok (.aload_n 0, 1) := by decide +kernel
theorem dX1_isFalling_43 : decode cX1_isFalling 43 = .ok (.getfield 15, 3) := by decide +kernel
theorem dX1_isFalling_46 : decode cX1_isFalling 46 = .ok (.iconst 0, 1) := by decide +kernel
theorem dX1_isFalling_47 : decode cX1_isFalling 47 = .ok (.laload, 1) := by decide +kernel
theorem dX1_isFalling_48 : decode cX1_isFalling 48 = .ok (.aload_n 0, 1) := by decide +kernel
theorem dX1_isFalling_49 : decode cX1_isFalling 49 = .ok (.getfield 15, 3) := by decide +kernel
theorem dX1_isFalling_52 : decode cX1_isFalling 52 = .ok (.iconst 1, 1) := by decide +kernel
theorem dX1_isFalling_53 : decode cX1_isFalling 53 = .ok (.laload, 1) := by decide +kernel
theorem dX1_isFalling_54 : decode cX1_isFalling 54 = .ok (.lcmp, 1) := by decide +kernel
theorem dX1_isFalling_55 : decode cX1_isFalling 55 = .ok (.ifCond .le 7, 3) := by decide +kernel
theorem dX1_isFalling_58 : decode cX1_isFalling 58 = .ok (.iconst 1, 1) := by decide +kernel
theorem dX1_isFalling_59 : decode cX1_isFalling 59 = .ok (.goto 4, 3) := by decide +kernel
theorem dX1_isFalling_62 : decode cX1_isFalling 62 = .ok (.iconst 0, 1) := by decide +kernel
theorem dX1_isFalling_63 : decode cX1_isFalling 63 = .ok (.ireturn, 1) := by decide +kernel
def F_X1_isFalling_37 (d : Nat) (v0 : Option Nm) (s0 : Int32) (h : MH) (u : Nat) (Q : Int32 → MH → Prop) : Prop :=
  if s0 = 0 then
    nz 0 ∧ Q 0 h
  else
    gR h v0 1 1 fun x1 =>
    aL h x1 0 fun x2 =>
    gR h v0 1 1 fun x3 =>
    aL h x3 1 fun x4 =>
    if (lg_cmp x2 x4) ≤ 0 then
      nz 0 ∧ Q 0 h
    else
      nz 1 ∧ Q 1 h
set_option maxRecDepth 20000 in
theorem E_X1_isFalling_37 {d : Nat} {v0 : Option Nm} {s0 : Int32} {h : MH} {u : Nat} {Q : Int32 → MH → Prop} (H : F_X1_isFalling_37 d v0 s0 h u Q) : T u_X1_isFalling (d + 1) 37 [some (jR v0), none, none] [jI s0] h u (qI Q) := by
  unfold F_X1_isFalling_37 at H
  refine T_istore_n (pc := 37) (ls2 := [some (jR v0), none, some (jI s0)]) dX1_isFalling_37 rfl (Nat.le_of_ble_eq_true rfl) rfl ?_
  refine T_iload_n (pc := 38) dX1_isFalling_38 rfl rfl ?_
  refine T_if_eq (pc := 39) (tgt := 62) dX1_isFalling_39 (by decide) (fun hc => ?_) (fun hc => ?_)
  · rw [if_pos hc] at H
    refine T_iconst (pc := 62) (v := 0) dX1_isFalling_62 (by decide) ?_
    exact T_ireturn (pc := 63) rfl (nz_nar H.1) dX1_isFalling_63 H.2
  · rw [if_neg hc] at H
    refine T_aload_n (pc := 42) dX1_isFalling_42 rfl rfl ?_
    refine T_gR (pc := 43) fa_X1_15 dX1_isFalling_43 (gR_mono (fun x1 H => ?_) H)
    refine T_iconst (pc := 46) (v := 0) dX1_isFalling_46 (by decide) ?_
    refine T_aL (pc := 47) dX1_isFalling_47 (aL_mono (fun x2 H => ?_) H)
    refine T_aload_n (pc := 48) dX1_isFalling_48 rfl rfl ?_
    refine T_gR (pc := 49) fa_X1_15 dX1_isFalling_49 (gR_mono (fun x3 H => ?_) H)
    refine T_iconst (pc := 52) (v := 1) dX1_isFalling_52 (by decide) ?_
    refine T_aL (pc := 53) dX1_isFalling_53 (aL_mono (fun x4 H => ?_) H)
    refine T_lcmp (pc := 54) dX1_isFalling_54 ?_
    refine T_if_le (pc := 55) (tgt := 62) dX1_isFalling_55 (by decide) (fun hc => ?_) (fun hc => ?_)
    · rw [if_pos hc] at H
      refine T_iconst (pc := 62) (v := 0) dX1_isFalling_62 (by decide) ?_
      exact T_ireturn (pc := 63) rfl (nz_nar H.1) dX1_isFalling_63 H.2
    · rw [if_neg hc] at H
      refine T_iconst (pc := 58) (v := 1) dX1_isFalling_58 (by decide) ?_
      refine T_goto (pc := 59) (tgt := 63) dX1_isFalling_59 (by decide) ?_
      exact T_ireturn (pc := 63) rfl (nz_nar H.1) dX1_isFalling_63 H.2
def F_X1_isFalling_36 (d : Nat) (v0 : Option Nm) (h : MH) (u : Nat) (Q : Int32 → MH → Prop) : Prop :=
  F_X1_isFalling_37 d v0 0 h u Q
set_option maxRecDepth 20000 in
theorem E_X1_isFalling_36 {d : Nat} {v0 : Option Nm} {h : MH} {u : Nat} {Q : Int32 → MH → Prop} (H : F_X1_isFalling_36 d v0 h u Q) : T u_X1_isFalling (d + 1) 36 [some (jR v0), none, none] [] h u (qI Q) := by
  unfold F_X1_isFalling_36 at H
  refine T_iconst (pc := 36) (v := 0) dX1_isFalling_36 (by decide) ?_
  exact T.forget (E_X1_isFalling_37 H) ⟨rfl, trivial⟩
def F_X1_isFalling (d : Nat) (v0 : Option Nm) (v1 : Option Nm) (h : MH) (u : Nat) (Q : Int32 → MH → Prop) : Prop :=
  gI h v1 2 4 fun x1 =>
  if x1 < 2 then
    F_X1_isFalling_36 d v0 h u Q
  else
    gR h v1 2 2 fun x2 =>
    aI .int h x2 0 fun x3 =>
    iI d u_X4_isWhole [jI x3] h u fun x4 h u =>
    if x4 = 0 then
      F_X1_isFalling_36 d v0 h u Q
    else
      gR h v1 2 2 fun x5 =>
      aI .int h x5 1 fun x6 =>
      iI d u_X4_isWhole [jI x6] h u fun x7 h u =>
      if x7 = 0 then
        F_X1_isFalling_36 d v0 h u Q
      else
        F_X1_isFalling_37 d v0 1 h u Q
set_option maxRecDepth 20000 in
theorem E_X1_isFalling {d : Nat} {v0 : Option Nm} {v1 : Option Nm} {h : MH} {u : Nat} {Q : Int32 → MH → Prop} (H : F_X1_isFalling d v0 v1 h u Q) : T u_X1_isFalling (d + 1) 0 [some (jR v0), some (jR v1), none] [] h u (qI Q) := by
  unfold F_X1_isFalling at H
  refine T_aload_n (pc := 0) dX1_isFalling_0 rfl rfl ?_
  refine T_gI (pc := 1) fa_X1_19 dX1_isFalling_1 (gI_mono (fun x1 H => ?_) H)
  refine T_iconst (pc := 4) (v := 2) dX1_isFalling_4 (by decide) ?_
  refine T_icmp_lt (pc := 5) (tgt := 36) dX1_isFalling_5 (by decide) (fun hc => ?_) (fun hc => ?_)
  · rw [if_pos hc] at H
    exact T.forget (E_X1_isFalling_36 H) ⟨rfl, trivial⟩
  · rw [if_neg hc] at H
    refine T_aload_n (pc := 8) dX1_isFalling_8 rfl rfl ?_
    refine T_gR (pc := 9) fa_X1_25 dX1_isFalling_9 (gR_mono (fun x2 H => ?_) H)
    refine T_iconst (pc := 12) (v := 0) dX1_isFalling_12 (by decide) ?_
    refine T_aI (pc := 13) dX1_isFalling_13 (aI_mono (fun x3 H => ?_) H)
    refine T_invS (pc := 14) (av := [jI x3]) (rest := []) dX1_isFalling_14 mf_X4_isWhole c_3_185 c_3_186 rfl (Nat.le_of_ble_eq_true rfl) rfl (iI_k (iI_mono (fun x4 h u H => ?_) H))
    refine T_if_eq (pc := 17) (tgt := 36) dX1_isFalling_17 (by decide) (fun hc => ?_) (fun hc => ?_)
    · rw [if_pos hc] at H
      exact T.forget (E_X1_isFalling_36 H) ⟨rfl, trivial⟩
    · rw [if_neg hc] at H
      refine T_aload_n (pc := 20) dX1_isFalling_20 rfl rfl ?_
      refine T_gR (pc := 21) fa_X1_25 dX1_isFalling_21 (gR_mono (fun x5 H => ?_) H)
      refine T_iconst (pc := 24) (v := 1) dX1_isFalling_24 (by decide) ?_
      refine T_aI (pc := 25) dX1_isFalling_25 (aI_mono (fun x6 H => ?_) H)
      refine T_invS (pc := 26) (av := [jI x6]) (rest := []) dX1_isFalling_26 mf_X4_isWhole c_3_185 c_3_186 rfl (Nat.le_of_ble_eq_true rfl) rfl (iI_k (iI_mono (fun x7 h u H => ?_) H))
      refine T_if_eq (pc := 29) (tgt := 36) dX1_isFalling_29 (by decide) (fun hc => ?_) (fun hc => ?_)
      · rw [if_pos hc] at H
        exact T.forget (E_X1_isFalling_36 H) ⟨rfl, trivial⟩
      · rw [if_neg hc] at H
        refine T_iconst (pc := 32) (v := 1) dX1_isFalling_32 (by decide) ?_
        refine T_goto (pc := 33) (tgt := 37) dX1_isFalling_33 (by decide) ?_
        exact T.forget (E_X1_isFalling_37 H) ⟨rfl, trivial⟩
theorem I_X1_isFalling {d : Nat} {v0 : Option Nm} {v1 : Option Nm} {h : MH} {u : Nat} {K : Int32 → MH → Nat → Prop} (u1 : Nat) (hu : u1 ≤ u) (H : F_X1_isFalling d v0 v1 h u1 (fun x h2 => K x h2 (u - u1))) : iI (d + 1) u_X1_isFalling [jR v0, jR v1] h u K := inv.of u1 hu (Ct.of (by decide +kernel) rfl (Nat.le_of_ble_eq_true rfl) rfl (E_X1_isFalling H))
theorem dX1_exchange_0 : decode cX1_exchange 0 = .ok (.aload_n 0, 1) := by decide +kernel
theorem dX1_exchange_1 : decode cX1_exchange 1 = .ok (.getfield 15, 3) := by decide +kernel
theorem dX1_exchange_4 : decode cX1_exchange 4 = .ok (.iconst 0, 1) := by decide +kernel
theorem dX1_exchange_5 : decode cX1_exchange 5 = .ok (.laload, 1) := by decide +kernel
theorem dX1_exchange_6 : decode cX1_exchange 6 = .ok (.lstore_n 2, 1) := by decide +kernel
theorem dX1_exchange_7 : decode cX1_exchange 7 = .ok (.aload_n 0, 1) := by decide +kernel
theorem dX1_exchange_8 : decode cX1_exchange 8 = .ok (.getfield 15, 3) := by decide +kernel
theorem dX1_exchange_11 : decode cX1_exchange 11 = .ok (.iconst 0, 1) := by decide +kernel
theorem dX1_exchange_12 : decode cX1_exchange 12 = .ok (.aload_n 1, 1) := by decide +kernel
theorem dX1_exchange_13 : decode cX1_exchange 13 = .ok (.getfield 25, 3) := by decide +kernel
theorem dX1_exchange_16 : decode cX1_exchange 16 = .ok (.iconst 0, 1) := by decide +kernel
theorem dX1_exchange_17 : decode cX1_exchange 17 = .ok (.iaload, 1) := by decide +kernel
theorem dX1_exchange_18 : decode cX1_exchange 18 = .ok (.aload_n 0, 1) := by decide +kernel
theorem dX1_exchange_19 : decode cX1_exchange 19 = .ok (.getfield 15, 3) := by decide +kernel
theorem dX1_exchange_22 : decode cX1_exchange 22 = .ok (.iconst 1, 1) := by decide +kernel
theorem dX1_exchange_23 : decode cX1_exchange 23 = .ok (.laload, 1) := by decide +kernel
theorem dX1_exchange_24 : decode cX1_exchange 24 = .ok (.invokestatic 126, 3) := by decide +kernel
theorem dX1_exchange_27 : decode cX1_exchange 27 = .ok (.lastore, 1) := by decide +kernel
theorem dX1_exchange_28 : decode cX1_exchange 28 = .ok (.aload_n 0, 1) := by decide +kernel
theorem dX1_exchange_29 : decode cX1_exchange 29 = .ok (.getfield 15, 3) := by decide +kernel
theorem dX1_exchange_32 : decode cX1_exchange 32 = .ok (.iconst 1, 1) := by decide +kernel
theorem dX1_exchange_33 : decode cX1_exchange 33 = .ok (.aload_n 1, 1) := by decide +kernel
theorem dX1_exchange_34 : decode cX1_exchange 34 = .ok (.getfield 25, 3) := by decide +kernel
theorem dX1_exchange_37 : decode cX1_exchange 37 = .ok (.iconst 1, 1) := by decide +kernel
theorem dX1_exchange_38 : decode cX1_exchange 38 = .ok (.iaload, 1) := by decide +kernel
theorem dX1_exchange_39 : decode cX1_exchange 39 = .ok (.lload_n 2, 1) := by decide +kernel
theorem dX1_exchange_40 : decode cX1_exchange 40 = .ok (.invokestatic 126, 3) := by decide +kernel
theorem dX1_exchange_43 : decode cX1_exchange 43 = .ok (.lastore, 1) := by decide +kernel
theorem dX1_exchange_44 : decode cX1_exchange 44 = .ok (.return_, 1) := by decide +kernel
def F_X1_exchange (d : Nat) (v0 : Option Nm) (v1 : Option Nm) (h : MH) (u : Nat) (Q : MH → Prop) : Prop :=
  gR h v0 1 1 fun x1 =>
  aL h x1 0 fun x2 =>
  gR h v0 1 1 fun x3 =>
  gR h v1 2 2 fun x4 =>
  aI .int h x4 0 fun x5 =>
  gR h v0 1 1 fun x6 =>
  aL h x6 1 fun x7 =>
  iL d u_X4_come [jI x5, jL x7] h u fun x8 h u =>
  sV .long h x3 0 (jL x8) fun h =>
  gR h v0 1 1 fun x9 =>
  gR h v1 2 2 fun x10 =>
  aI .int h x10 1 fun x11 =>
  iL d u_X4_come [jI x11, jL x2] h u fun x12 h u =>
  sV .long h x9 1 (jL x12) fun h =>
  Q h
set_option maxRecDepth 20000 in
theorem E_X1_exchange {d : Nat} {v0 : Option Nm} {v1 : Option Nm} {h : MH} {u : Nat} {Q : MH → Prop} (H : F_X1_exchange d v0 v1 h u Q) : T u_X1_exchange (d + 1) 0 [some (jR v0), some (jR v1), none, none] [] h u (qV Q) := by
  unfold F_X1_exchange at H
  refine T_aload_n (pc := 0) dX1_exchange_0 rfl rfl ?_
  refine T_gR (pc := 1) fa_X1_15 dX1_exchange_1 (gR_mono (fun x1 H => ?_) H)
  refine T_iconst (pc := 4) (v := 0) dX1_exchange_4 (by decide) ?_
  refine T_aL (pc := 5) dX1_exchange_5 (aL_mono (fun x2 H => ?_) H)
  refine T_lstore_n (pc := 6) (ls2 := [some (jR v0), some (jR v1), some (jL x2), none]) dX1_exchange_6 rfl (Nat.le_of_ble_eq_true rfl) rfl ?_
  refine T_aload_n (pc := 7) dX1_exchange_7 rfl rfl ?_
  refine T_gR (pc := 8) fa_X1_15 dX1_exchange_8 (gR_mono (fun x3 H => ?_) H)
  refine T_iconst (pc := 11) (v := 0) dX1_exchange_11 (by decide) ?_
  refine T_aload_n (pc := 12) dX1_exchange_12 rfl rfl ?_
  refine T_gR (pc := 13) fa_X1_25 dX1_exchange_13 (gR_mono (fun x4 H => ?_) H)
  refine T_iconst (pc := 16) (v := 0) dX1_exchange_16 (by decide) ?_
  refine T_aI (pc := 17) dX1_exchange_17 (aI_mono (fun x5 H => ?_) H)
  refine T_aload_n (pc := 18) dX1_exchange_18 rfl rfl ?_
  refine T_gR (pc := 19) fa_X1_15 dX1_exchange_19 (gR_mono (fun x6 H => ?_) H)
  refine T_iconst (pc := 22) (v := 1) dX1_exchange_22 (by decide) ?_
  refine T_aL (pc := 23) dX1_exchange_23 (aL_mono (fun x7 H => ?_) H)
  refine T_invS (pc := 24) (av := [jI x5, jL x7]) (rest := [jI 0, jR x3]) dX1_exchange_24 mf_X4_come c_3_192 c_2_19 rfl (Nat.le_of_ble_eq_true rfl) rfl (iL_k (iL_mono (fun x8 h u H => ?_) H))
  refine T_sL (pc := 27) dX1_exchange_27 (sV_mono (fun h H => ?_) H)
  refine T_aload_n (pc := 28) dX1_exchange_28 rfl rfl ?_
  refine T_gR (pc := 29) fa_X1_15 dX1_exchange_29 (gR_mono (fun x9 H => ?_) H)
  refine T_iconst (pc := 32) (v := 1) dX1_exchange_32 (by decide) ?_
  refine T_aload_n (pc := 33) dX1_exchange_33 rfl rfl ?_
  refine T_gR (pc := 34) fa_X1_25 dX1_exchange_34 (gR_mono (fun x10 H => ?_) H)
  refine T_iconst (pc := 37) (v := 1) dX1_exchange_37 (by decide) ?_
  refine T_aI (pc := 38) dX1_exchange_38 (aI_mono (fun x11 H => ?_) H)
  refine T_lload_n (pc := 39) dX1_exchange_39 rfl rfl ?_
  refine T_invS (pc := 40) (av := [jI x11, jL x2]) (rest := [jI 1, jR x9]) dX1_exchange_40 mf_X4_come c_3_192 c_2_19 rfl (Nat.le_of_ble_eq_true rfl) rfl (iL_k (iL_mono (fun x12 h u H => ?_) H))
  refine T_sL (pc := 43) dX1_exchange_43 (sV_mono (fun h H => ?_) H)
  exact T_return (pc := 44) rfl dX1_exchange_44 H
theorem I_X1_exchange {d : Nat} {v0 : Option Nm} {v1 : Option Nm} {h : MH} {u : Nat} {K : MH → Nat → Prop} (u1 : Nat) (hu : u1 ≤ u) (H : F_X1_exchange d v0 v1 h u1 (fun h2 => K h2 (u - u1))) : iV (d + 1) u_X1_exchange [jR v0, jR v1] h u K := inv.of u1 hu (Ct.of (by decide +kernel) rfl (Nat.le_of_ble_eq_true rfl) rfl (E_X1_exchange H))
theorem dX1_hasEveryPart_0 : decode cX1_hasEveryPart 0 = .ok (.iconst 0, 1) := by decide +kernel
theorem dX1_hasEveryPart_1 : decode cX1_hasEveryPart 1 = .ok (.istore_n 2, 1) := by decide +kernel
theorem dX1_hasEveryPart_2 : decode cX1_hasEveryPart 2 = .ok (.iload_n 2, 1) := by decide +kernel
theorem dX1_hasEveryPart_3 : decode cX1_hasEveryPart 3 = .ok (.aload_n 1, 1) := by decide +kernel
theorem dX1_hasEveryPart_4 : decode cX1_hasEveryPart 4 = .ok (.getfield 19, 3) := by decide +kernel
theorem dX1_hasEveryPart_7 : decode cX1_hasEveryPart 7 = .ok (.if_icmp .ge 36, 3) := by decide +kernel
theorem dX1_hasEveryPart_10 : decode cX1_hasEveryPart 10 = .ok (.aload_n 1, 1) := by decide +kernel
theorem dX1_hasEveryPart_11 : decode cX1_hasEveryPart 11 = .ok (.getfield 25, 3) := by decide +kernel
theorem dX1_hasEveryPart_14 : decode cX1_hasEveryPart 14 = .ok (.iload_n 2, 1) := by decide +kernel
theorem dX1_hasEveryPart_15 : decode cX1_hasEveryPart 15 = .ok (.iaload, 1) := by decide +kernel
theorem dX1_hasEveryPart_16 : decode cX1_hasEveryPart 16 = .ok (.invokestatic 52, 3) := by decide +kernel
theorem dX1_hasEveryPart_19 : decode cX1_hasEveryPart 19 = .ok (.ifCond .ne 18, 3) := by decide +kernel
theorem dX1_hasEveryPart_22 : decode cX1_hasEveryPart 22 = .ok (.aload_n 0, 1) := by decide +kernel
theorem dX1_hasEveryPart_23 : decode cX1_hasEveryPart 23 = .ok (.getfield 15, 3) := by decide +kernel
theorem dX1_hasEveryPart_26 : decode cX1_hasEveryPart 26 = .ok (.iload_n 2, 1) := by decide +kernel
theorem dX1_hasEveryPart_27 : decode cX1_hasEveryPart 27 = .ok (.laload, 1) := by decide +kernel
theorem dX1_hasEveryPart_28 : decode cX1_hasEveryPart 28 = .ok (.ldc2_w 58, 3) := by decide +kernel
theorem dX1_hasEveryPart_31 : decode cX1_hasEveryPart 31 = .ok (.lcmp, 1) := by decide +kernel
theorem dX1_hasEveryPart_32 : decode cX1_hasEveryPart 32 = .ok (.ifCond .ne 5, 3) := by decide +kernel
theorem dX1_hasEveryPart_35 : decode cX1_hasEveryPart 35 = .ok (.iconst 0, 1) := by decide +kernel
theorem dX1_hasEveryPart_36 : decode cX1_hasEveryPart 36 = .ok (.ireturn, 1) := by decide +kernel
theorem dX1_hasEveryPart_37 : decode cX1_hasEveryPart 37 = .ok (.iinc 2 1, 3) := by decide +kernel
theorem dX1_hasEveryPart_40 : decode cX1_hasEveryPart 40 = .ok (.goto (-38), 3) := by decide +kernel
theorem dX1_hasEveryPart_43 : decode cX1_hasEveryPart 43 = .ok (.iconst 1, 1) := by decide +kernel
theorem dX1_hasEveryPart_44 : decode cX1_hasEveryPart 44 = .ok (.ireturn, 1) := by decide +kernel
def L_X1_hasEveryPart_2 (d : Nat) (v0 : Option Nm) (v1 : Option Nm) (v2 : Int32) (h : MH) (u : Nat) (Q : Int32 → MH → Prop) : Prop := T u_X1_hasEveryPart (d + 1) 2 [some (jR v0), some (jR v1), some (jI v2)] [] h u (qI Q)
def F_X1_hasEveryPart (d : Nat) (v0 : Option Nm) (v1 : Option Nm) (h : MH) (u : Nat) (Q : Int32 → MH → Prop) : Prop :=
  L_X1_hasEveryPart_2 d v0 v1 0 h u Q
set_option maxRecDepth 20000 in
theorem E_X1_hasEveryPart {d : Nat} {v0 : Option Nm} {v1 : Option Nm} {h : MH} {u : Nat} {Q : Int32 → MH → Prop} (H : F_X1_hasEveryPart d v0 v1 h u Q) : T u_X1_hasEveryPart (d + 1) 0 [some (jR v0), some (jR v1), none] [] h u (qI Q) := by
  unfold F_X1_hasEveryPart at H
  refine T_iconst (pc := 0) (v := 0) dX1_hasEveryPart_0 (by decide) ?_
  refine T_istore_n (pc := 1) (ls2 := [some (jR v0), some (jR v1), some (jI 0)]) dX1_hasEveryPart_1 rfl (Nat.le_of_ble_eq_true rfl) rfl ?_
  exact T.forget H ⟨rfl, rfl, rfl, trivial⟩
def F_X1_hasEveryPart_2 (d : Nat) (v0 : Option Nm) (v1 : Option Nm) (v2 : Int32) (h : MH) (u : Nat) (Q : Int32 → MH → Prop) : Prop :=
  gI h v1 2 4 fun x1 =>
  if x1 ≤ v2 then
    nz 1 ∧ Q 1 h
  else
    gR h v1 2 2 fun x2 =>
    aI .int h x2 v2 fun x3 =>
    iI d u_X4_isNumber [jI x3] h u fun x4 h u =>
    if x4 = 0 then
      gR h v0 1 1 fun x5 =>
      aL h x5 v2 fun x6 =>
      if (lg_cmp x6 (-1)) = 0 then
        nz 0 ∧ Q 0 h
      else
        L_X1_hasEveryPart_2 d v0 v1 (v2 + 1) h u Q
    else
      L_X1_hasEveryPart_2 d v0 v1 (v2 + 1) h u Q
set_option maxRecDepth 20000 in
theorem E_X1_hasEveryPart_2 {d : Nat} {v0 : Option Nm} {v1 : Option Nm} {v2 : Int32} {h : MH} {u : Nat} {Q : Int32 → MH → Prop} (H : F_X1_hasEveryPart_2 d v0 v1 v2 h u Q) : T u_X1_hasEveryPart (d + 1) 2 [some (jR v0), some (jR v1), some (jI v2)] [] h u (qI Q) := by
  unfold F_X1_hasEveryPart_2 at H
  refine T_iload_n (pc := 2) dX1_hasEveryPart_2 rfl rfl ?_
  refine T_aload_n (pc := 3) dX1_hasEveryPart_3 rfl rfl ?_
  refine T_gI (pc := 4) fa_X1_19 dX1_hasEveryPart_4 (gI_mono (fun x1 H => ?_) H)
  refine T_icmp_ge (pc := 7) (tgt := 43) dX1_hasEveryPart_7 (by decide) (fun hc => ?_) (fun hc => ?_)
  · rw [if_pos hc] at H
    refine T_iconst (pc := 43) (v := 1) dX1_hasEveryPart_43 (by decide) ?_
    exact T_ireturn (pc := 44) rfl (nz_nar H.1) dX1_hasEveryPart_44 H.2
  · rw [if_neg hc] at H
    refine T_aload_n (pc := 10) dX1_hasEveryPart_10 rfl rfl ?_
    refine T_gR (pc := 11) fa_X1_25 dX1_hasEveryPart_11 (gR_mono (fun x2 H => ?_) H)
    refine T_iload_n (pc := 14) dX1_hasEveryPart_14 rfl rfl ?_
    refine T_aI (pc := 15) dX1_hasEveryPart_15 (aI_mono (fun x3 H => ?_) H)
    refine T_invS (pc := 16) (av := [jI x3]) (rest := []) dX1_hasEveryPart_16 mf_X4_isNumber c_3_197 c_2_6 rfl (Nat.le_of_ble_eq_true rfl) rfl (iI_k (iI_mono (fun x4 h u H => ?_) H))
    refine T_if_ne (pc := 19) (tgt := 37) dX1_hasEveryPart_19 (by decide) (fun hc => ?_) (fun hc => ?_)
    · rw [if_neg hc] at H
      refine T_iinc (pc := 37) (v := v2 + 1) (ls2 := [some (jR v0), some (jR v1), some (jI (v2 + 1))]) dX1_hasEveryPart_37 rfl rfl (Nat.le_of_ble_eq_true rfl) rfl ?_
      refine T_goto (pc := 40) (tgt := 2) dX1_hasEveryPart_40 (by decide) ?_
      exact T.forget H ⟨rfl, rfl, rfl, trivial⟩
    · rw [if_pos hc] at H
      refine T_aload_n (pc := 22) dX1_hasEveryPart_22 rfl rfl ?_
      refine T_gR (pc := 23) fa_X1_15 dX1_hasEveryPart_23 (gR_mono (fun x5 H => ?_) H)
      refine T_iload_n (pc := 26) dX1_hasEveryPart_26 rfl rfl ?_
      refine T_aL (pc := 27) dX1_hasEveryPart_27 (aL_mono (fun x6 H => ?_) H)
      refine T_ldc2 (pc := 28) (v := (-1)) dX1_hasEveryPart_28 c_3_198 ?_
      refine T_lcmp (pc := 31) dX1_hasEveryPart_31 ?_
      refine T_if_ne (pc := 32) (tgt := 37) dX1_hasEveryPart_32 (by decide) (fun hc => ?_) (fun hc => ?_)
      · rw [if_neg hc] at H
        refine T_iinc (pc := 37) (v := v2 + 1) (ls2 := [some (jR v0), some (jR v1), some (jI (v2 + 1))]) dX1_hasEveryPart_37 rfl rfl (Nat.le_of_ble_eq_true rfl) rfl ?_
        refine T_goto (pc := 40) (tgt := 2) dX1_hasEveryPart_40 (by decide) ?_
        exact T.forget H ⟨rfl, rfl, rfl, trivial⟩
      · rw [if_pos hc] at H
        refine T_iconst (pc := 35) (v := 0) dX1_hasEveryPart_35 (by decide) ?_
        exact T_ireturn (pc := 36) rfl (nz_nar H.1) dX1_hasEveryPart_36 H.2
theorem I_X1_hasEveryPart {d : Nat} {v0 : Option Nm} {v1 : Option Nm} {h : MH} {u : Nat} {K : Int32 → MH → Nat → Prop} (u1 : Nat) (hu : u1 ≤ u) (H : F_X1_hasEveryPart d v0 v1 h u1 (fun x h2 => K x h2 (u - u1))) : iI (d + 1) u_X1_hasEveryPart [jR v0, jR v1] h u K := inv.of u1 hu (Ct.of (by decide +kernel) rfl (Nat.le_of_ble_eq_true rfl) rfl (E_X1_hasEveryPart H))
theorem dX1_measureThing_0 : decode cX1_measureThing 0 = .ok (.aload_n 0, 1) := by decide +kernel
theorem dX1_measureThing_1 : decode cX1_measureThing 1 = .ok (.getfield 9, 3) := by decide +kernel
theorem dX1_measureThing_4 : decode cX1_measureThing 4 = .ok (.lload_n 1, 1) := by decide +kernel
theorem dX1_measureThing_5 : decode cX1_measureThing 5 = .ok (.invokevirtual 130, 3) := by decide +kernel
theorem dX1_measureThing_8 : decode cX1_measureThing 8 = .ok (.astore_n 3, 1) := by decide +kernel
theorem dX1_measureThing_9 : decode cX1_measureThing 9 = .ok (.aload_n 3, 1) := by decide +kernel
theorem dX1_measureThing_10 : decode cX1_measureThing 10 = .ok (.ifnull 33, 3) := by decide +kernel
theorem dX1_measureThing_13 : decode cX1_measureThing 13 = .ok (.aload_n 0, 1) := by decide +kernel
theorem dX1_measureThing_14 : decode cX1_measureThing 14 = .ok (.dup, 1) := by decide +kernel
theorem dX1_measureThing_15 : decode cX1_measureThing 15 = .ok (.getfield 88, 3) := by decide +kernel
theorem dX1_measureThing_18 : decode cX1_measureThing 18 = .ok (.aload_n 3, 1) := by decide +kernel
theorem dX1_measureThing_19 : decode cX1_measureThing 19 = .ok (.getfield 134, 3) := by decide +kernel
theorem dX1_measureThing_22 : decode cX1_measureThing 22 = .ok (.iadd, 1) := by decide +kernel
theorem dX1_measureThing_23 : decode cX1_measureThing 23 = .ok (.putfield 88, 3) := by decide +kernel
theorem dX1_measureThing_26 : decode cX1_measureThing 26 = .ok (.aload_n 0, 1) := by decide +kernel
theorem dX1_measureThing_27 : decode cX1_measureThing 27 = .ok (.aload_n 0, 1) := by decide +kernel
theorem dX1_measureThing_28 : decode cX1_measureThing 28 = .ok (.getfield 91, 3) := by decide +kernel
theorem dX1_measureThing_31 : decode cX1_measureThing 31 = .ok (.aload_n 3, 1) := by decide +kernel
theorem dX1_measureThing_32 : decode cX1_measureThing 32 = .ok (.getfield 135, 3) := by decide +kernel
theorem dX1_measureThing_35 : decode cX1_measureThing 35 = .ok (.iconst 1, 1) := by decide +kernel
theorem dX1_measureThing_36 : decode cX1_measureThing 36 = .ok (.iadd, 1) := by decide +kernel
theorem dX1_measureThing_37 : decode cX1_measureThing 37 = .ok (.invokestatic 136, 3) := by decide +kernel
theorem dX1_measureThing_40 : decode cX1_measureThing 40 = .ok (.putfield 91, 3) := by decide +kernel
theorem dX1_measureThing_43 : decode cX1_measureThing 43 = .ok (.return_, 1) := by decide +kernel
def F_X1_measureThing (d : Nat) (v0 : Option Nm) (v1 : Int64) (h : MH) (u : Nat) (Q : MH → Prop) : Prop :=
  gR h v0 1 0 fun x1 =>
  rc h x1 6 ∧ iR d u_X7_findValue [jR x1, jL v1] h u fun x2 h u =>
  nl x2 (
    Q h) (
    gI h v0 1 2 fun x3 =>
    gI h x2 9 6 fun x4 =>
    pV h v0 1 2 (jI (x3 + x4)) fun h =>
    gI h v0 1 3 fun x5 =>
    gI h x2 9 7 fun x6 =>
    iI d u_J9_max_7cf53 [jI x5, jI (x6 + 1)] h u fun x7 h u =>
    pV h v0 1 3 (jI x7) fun h =>
    Q h)
set_option maxRecDepth 20000 in
theorem E_X1_measureThing {d : Nat} {v0 : Option Nm} {v1 : Int64} {h : MH} {u : Nat} {Q : MH → Prop} (H : F_X1_measureThing d v0 v1 h u Q) : T u_X1_measureThing (d + 1) 0 [some (jR v0), some (jL v1), none, none] [] h u (qV Q) := by
  unfold F_X1_measureThing at H
  refine T_aload_n (pc := 0) dX1_measureThing_0 rfl rfl ?_
  refine T_gR (pc := 1) fa_X1_9 dX1_measureThing_1 (gR_mono (fun x1 H => ?_) H)
  refine T_lload_n (pc := 4) dX1_measureThing_4 rfl rfl ?_
  obtain ⟨H0, H⟩ := H
  refine T_iV (pc := 5) (ci := 6) (av := [jL v1]) (rest := []) (o := x1) dX1_measureThing_5 mf_X7_findValue c_3_207 c_2_64 c_2_65 rfl rfl (Nat.le_of_ble_eq_true rfl) rfl H0 (iR_k (iR_mono (fun x2 h u H => ?_) H))
  refine T_astore_n (pc := 8) (ls2 := [some (jR v0), some (jL v1), none, some (jR x2)]) dX1_measureThing_8 rfl (Nat.le_of_ble_eq_true rfl) rfl ?_
  refine T_aload_n (pc := 9) dX1_measureThing_9 rfl rfl ?_
  refine T_ifnull (pc := 10) (tgt := 43) dX1_measureThing_10 (by decide) (fun ho => ?_) (fun n ho => ?_)
  · replace H := nl_n ho H
    exact T_return (pc := 43) rfl dX1_measureThing_43 H
  · replace H := nl_s ho H
    refine T_aload_n (pc := 13) dX1_measureThing_13 rfl rfl ?_
    refine T_dup (pc := 14) rfl dX1_measureThing_14 ?_
    refine T_gI (pc := 15) fa_X1_88 dX1_measureThing_15 (gI_mono (fun x3 H => ?_) H)
    refine T_aload_n (pc := 18) dX1_measureThing_18 rfl rfl ?_
    refine T_gI (pc := 19) fa_X1_134 dX1_measureThing_19 (gI_mono (fun x4 H => ?_) H)
    refine T_iadd (pc := 22) dX1_measureThing_22 ?_
    refine T_pV (pc := 23) fa_X1_88 dX1_measureThing_23 trivial (pV_mono (fun h H => ?_) H)
    refine T_aload_n (pc := 26) dX1_measureThing_26 rfl rfl ?_
    refine T_aload_n (pc := 27) dX1_measureThing_27 rfl rfl ?_
    refine T_gI (pc := 28) fa_X1_91 dX1_measureThing_28 (gI_mono (fun x5 H => ?_) H)
    refine T_aload_n (pc := 31) dX1_measureThing_31 rfl rfl ?_
    refine T_gI (pc := 32) fa_X1_135 dX1_measureThing_32 (gI_mono (fun x6 H => ?_) H)
    refine T_iconst (pc := 35) (v := 1) dX1_measureThing_35 (by decide) ?_
    refine T_iadd (pc := 36) dX1_measureThing_36 ?_
    refine T_invS (pc := 37) (av := [jI x5, jI (x6 + 1)]) (rest := [jR v0]) dX1_measureThing_37 mf_J9_max_7cf53 c_3_208 c_3_209 rfl (Nat.le_of_ble_eq_true rfl) rfl (iI_k (iI_mono (fun x7 h u H => ?_) H))
    refine T_pV (pc := 40) fa_X1_91 dX1_measureThing_40 trivial (pV_mono (fun h H => ?_) H)
    exact T_return (pc := 43) rfl dX1_measureThing_43 H
theorem I_X1_measureThing {d : Nat} {v0 : Option Nm} {v1 : Int64} {h : MH} {u : Nat} {K : MH → Nat → Prop} (u1 : Nat) (hu : u1 ≤ u) (H : F_X1_measureThing d v0 v1 h u1 (fun h2 => K h2 (u - u1))) : iV (d + 1) u_X1_measureThing [jR v0, jL v1] h u K := inv.of u1 hu (Ct.of (by decide +kernel) rfl (Nat.le_of_ble_eq_true rfl) rfl (E_X1_measureThing H))
theorem dX9_init_0 : decode cX9_init 0 = .ok (.aload_n 0, 1) := by decide +kernel
theorem dX9_init_1 : decode cX9_init 1 = .ok (.invokespecial 3, 3) := by decide +kernel
theorem dX9_init_4 : decode cX9_init 4 = .ok (.aload_n 0, 1) := by decide +kernel
theorem dX9_init_5 : decode cX9_init 5 = .ok (.bipush 6, 2) := by decide +kernel
theorem dX9_init_7 : decode cX9_init 7 = .ok (.newarray .int, 2) := by decide +kernel
theorem dX9_init_9 : decode cX9_init 9 = .ok (.putfield 9, 3) := by decide +kernel
theorem dX9_init_12 : decode cX9_init 12 = .ok (.aload_n 0, 1) := by decide +kernel
theorem dX9_init_13 : decode cX9_init 13 = .ok (.bipush 6, 2) := by decide +kernel
theorem dX9_init_15 : decode cX9_init 15 = .ok (.newarray .long, 2) := by decide +kernel
theorem dX9_init_17 : decode cX9_init 17 = .ok (.putfield 15, 3) := by decide +kernel
theorem dX9_init_20 : decode cX9_init 20 = .ok (.iconst 0, 1) := by decide +kernel
theorem dX9_init_21 : decode cX9_init 21 = .ok (.istore_n 1, 1) := by decide +kernel
theorem dX9_init_22 : decode cX9_init 22 = .ok (.iload_n 1, 1) := by decide +kernel
theorem dX9_init_23 : decode cX9_init 23 = .ok (.bipush 6, 2) := by decide +kernel
theorem dX9_init_25 : decode cX9_init 25 = .ok (.if_icmp .ge 16, 3) := by decide +kernel
theorem dX9_init_28 : decode cX9_init 28 = .ok (.aload_n 0, 1) := by decide +kernel
theorem dX9_init_29 : decode cX9_init 29 = .ok (.getfield 9, 3) := by decide +kernel
theorem dX9_init_32 : decode cX9_init 32 = .ok (.iload_n 1, 1) := by decide +kernel
theorem dX9_init_33 : decode cX9_init 33 = .ok (.iconst (-1), 1) := by decide +kernel
theorem dX9_init_34 : decode cX9_init 34 = .ok (.iastore, 1) := by decide +kernel
theorem dX9_init_35 : decode cX9_init 35 = .ok (.iinc 1 1, 3) := by decide +kernel
theorem dX9_init_38 : decode cX9_init 38 = .ok (.goto (-16), 3) := by decide +kernel
theorem dX9_init_41 : decode cX9_init 41 = .ok (.return_, 1) := by decide +kernel
def L_X9_init_22 (d : Nat) (v0 : Option Nm) (v1 : Int32) (h : MH) (u : Nat) (Q : MH → Prop) : Prop := T u_X9_init (d + 1) 22 [some (jR v0), some (jI v1)] [] h u (qV Q)
def F_X9_init (d : Nat) (v0 : Option Nm) (h : MH) (u : Nat) (Q : MH → Prop) : Prop :=
  nn v0 <|
  nA .int h u 6 fun x1 h u =>
  pV h v0 8 0 (jR (some x1)) fun h =>
  nA .long h u 6 fun x2 h u =>
  pV h v0 8 1 (jR (some x2)) fun h =>
  L_X9_init_22 d v0 0 h u Q
set_option maxRecDepth 20000 in
theorem E_X9_init {d : Nat} {v0 : Option Nm} {h : MH} {u : Nat} {Q : MH → Prop} (H : F_X9_init d v0 h u Q) : T u_X9_init (d + 1) 0 [some (jR v0), none] [] h u (qV Q) := by
  unfold F_X9_init at H
  refine T_aload_n (pc := 0) dX9_init_0 rfl rfl ?_
  obtain ⟨n0, H0, H⟩ := nn_out H
  refine T_objInit (pc := 1) dX9_init_1 c_1_57 c_1_25 c_1_26 H0 (Nat.le_of_ble_eq_true rfl) ?_
  refine T_aload_n (pc := 4) dX9_init_4 rfl rfl ?_
  refine T_bipush (pc := 5) (v := 6) dX9_init_5 (by decide) ?_
  refine T_nA (pc := 7) dX9_init_7 rfl (by decide) c_1_65 (nA_mono (fun x1 h u H => ?_) H)
  refine T_pVF (pc := 9) fa_X9_9 rfl rfl dX9_init_9 trivial (pV_mono (fun h H => ?_) H)
  refine T_aload_n (pc := 12) dX9_init_12 rfl rfl ?_
  refine T_bipush (pc := 13) (v := 6) dX9_init_13 (by decide) ?_
  refine T_nA (pc := 15) dX9_init_15 rfl (by decide) c_1_66 (nA_mono (fun x2 h u H => ?_) H)
  refine T_pVF (pc := 17) fa_X9_15 rfl rfl dX9_init_17 trivial (pV_mono (fun h H => ?_) H)
  refine T_iconst (pc := 20) (v := 0) dX9_init_20 (by decide) ?_
  refine T_istore_n (pc := 21) (ls2 := [some (jR v0), some (jI 0)]) dX9_init_21 rfl (Nat.le_of_ble_eq_true rfl) rfl ?_
  exact T.forget H ⟨rfl, rfl, trivial⟩
def F_X9_init_22 (d : Nat) (v0 : Option Nm) (v1 : Int32) (h : MH) (u : Nat) (Q : MH → Prop) : Prop :=
  if 6 ≤ v1 then
    Q h
  else
    gR h v0 8 0 fun x1 =>
    sV .int h x1 v1 (jI (-1)) fun h =>
    L_X9_init_22 d v0 (v1 + 1) h u Q
set_option maxRecDepth 20000 in
theorem E_X9_init_22 {d : Nat} {v0 : Option Nm} {v1 : Int32} {h : MH} {u : Nat} {Q : MH → Prop} (H : F_X9_init_22 d v0 v1 h u Q) : T u_X9_init (d + 1) 22 [some (jR v0), some (jI v1)] [] h u (qV Q) := by
  unfold F_X9_init_22 at H
  refine T_iload_n (pc := 22) dX9_init_22 rfl rfl ?_
  refine T_bipush (pc := 23) (v := 6) dX9_init_23 (by decide) ?_
  refine T_icmp_ge (pc := 25) (tgt := 41) dX9_init_25 (by decide) (fun hc => ?_) (fun hc => ?_)
  · rw [if_pos hc] at H
    exact T_return (pc := 41) rfl dX9_init_41 H
  · rw [if_neg hc] at H
    refine T_aload_n (pc := 28) dX9_init_28 rfl rfl ?_
    refine T_gR (pc := 29) fa_X9_9 dX9_init_29 (gR_mono (fun x1 H => ?_) H)
    refine T_iload_n (pc := 32) dX9_init_32 rfl rfl ?_
    refine T_iconst (pc := 33) (v := (-1)) dX9_init_33 (by decide) ?_
    refine T_sI (pc := 34) dX9_init_34 (sV_mono (fun h H => ?_) H)
    refine T_iinc (pc := 35) (v := v1 + 1) (ls2 := [some (jR v0), some (jI (v1 + 1))]) dX9_init_35 rfl rfl (Nat.le_of_ble_eq_true rfl) rfl ?_
    refine T_goto (pc := 38) (tgt := 22) dX9_init_38 (by decide) ?_
    exact T.forget H ⟨rfl, rfl, trivial⟩
theorem I_X9_init {d : Nat} {v0 : Option Nm} {h : MH} {u : Nat} {K : MH → Nat → Prop} (u1 : Nat) (hu : u1 ≤ u) (H : F_X9_init d v0 h u1 (fun h2 => K h2 (u - u1))) : iV (d + 1) u_X9_init [jR v0] h u K := inv.of u1 hu (Ct.of (by decide +kernel) rfl (Nat.le_of_ble_eq_true rfl) rfl (E_X9_init H))
theorem dX9_place_0 : decode cX9_place 0 = .ok (.aload_n 0, 1) := by decide +kernel
theorem dX9_place_1 : decode cX9_place 1 = .ok (.getfield 9, 3) := by decide +kernel
theorem dX9_place_4 : decode cX9_place 4 = .ok (.iload_n 1, 1) := by decide +kernel
theorem dX9_place_5 : decode cX9_place 5 = .ok (.iload_n 2, 1) := by decide +kernel
theorem dX9_place_6 : decode cX9_place 6 = .ok (.iastore, 1) := by decide +kernel
theorem dX9_place_7 : decode cX9_place 7 = .ok (.aload_n 0, 1) := by decide +kernel
theorem dX9_place_8 : decode cX9_place 8 = .ok (.getfield 15, 3) := by decide +kernel
theorem dX9_place_11 : decode cX9_place 11 = .ok (.iload_n 1, 1) := by decide +kernel
theorem dX9_place_12 : decode cX9_place 12 = .ok (.lload_n 3, 1) := by decide +kernel
theorem dX9_place_13 : decode cX9_place 13 = .ok (.lastore, 1) := by decide +kernel
theorem dX9_place_14 : decode cX9_place 14 = .ok (.return_, 1) := by decide +kernel
def F_X9_place (d : Nat) (v0 : Option Nm) (v1 : Int32) (v2 : Int32) (v3 : Int64) (h : MH) (u : Nat) (Q : MH → Prop) : Prop :=
  gR h v0 8 0 fun x1 =>
  sV .int h x1 v1 (jI v2) fun h =>
  gR h v0 8 1 fun x2 =>
  sV .long h x2 v1 (jL v3) fun h =>
  Q h
set_option maxRecDepth 20000 in
theorem E_X9_place {d : Nat} {v0 : Option Nm} {v1 : Int32} {v2 : Int32} {v3 : Int64} {h : MH} {u : Nat} {Q : MH → Prop} (H : F_X9_place d v0 v1 v2 v3 h u Q) : T u_X9_place d 0 [some (jR v0), some (jI v1), some (jI v2), some (jL v3), none] [] h u (qV Q) := by
  unfold F_X9_place at H
  refine T_aload_n (pc := 0) dX9_place_0 rfl rfl ?_
  refine T_gR (pc := 1) fa_X9_9 dX9_place_1 (gR_mono (fun x1 H => ?_) H)
  refine T_iload_n (pc := 4) dX9_place_4 rfl rfl ?_
  refine T_iload_n (pc := 5) dX9_place_5 rfl rfl ?_
  refine T_sI (pc := 6) dX9_place_6 (sV_mono (fun h H => ?_) H)
  refine T_aload_n (pc := 7) dX9_place_7 rfl rfl ?_
  refine T_gR (pc := 8) fa_X9_15 dX9_place_8 (gR_mono (fun x2 H => ?_) H)
  refine T_iload_n (pc := 11) dX9_place_11 rfl rfl ?_
  refine T_lload_n (pc := 12) dX9_place_12 rfl rfl ?_
  refine T_sL (pc := 13) dX9_place_13 (sV_mono (fun h H => ?_) H)
  exact T_return (pc := 14) rfl dX9_place_14 H
theorem I_X9_place {d : Nat} {v0 : Option Nm} {v1 : Int32} {v2 : Int32} {v3 : Int64} {h : MH} {u : Nat} {K : MH → Nat → Prop} (u1 : Nat) (hu : u1 ≤ u) (H : F_X9_place d v0 v1 v2 v3 h u1 (fun h2 => K h2 (u - u1))) : iV d u_X9_place [jR v0, jI v1, jI v2, jL v3] h u K := inv.of u1 hu (Ct.of (by decide +kernel) rfl (Nat.le_of_ble_eq_true rfl) rfl (E_X9_place H))
theorem dX9_empty_0 : decode cX9_empty 0 = .ok (.aload_n 0, 1) := by decide +kernel
theorem dX9_empty_1 : decode cX9_empty 1 = .ok (.getfield 9, 3) := by decide +kernel
theorem dX9_empty_4 : decode cX9_empty 4 = .ok (.iload_n 1, 1) := by decide +kernel
theorem dX9_empty_5 : decode cX9_empty 5 = .ok (.iconst (-1), 1) := by decide +kernel
theorem dX9_empty_6 : decode cX9_empty 6 = .ok (.iastore, 1) := by decide +kernel
theorem dX9_empty_7 : decode cX9_empty 7 = .ok (.return_, 1) := by decide +kernel
def F_X9_empty (d : Nat) (v0 : Option Nm) (v1 : Int32) (h : MH) (u : Nat) (Q : MH → Prop) : Prop :=
  gR h v0 8 0 fun x1 =>
  sV .int h x1 v1 (jI (-1)) fun h =>
  Q h
set_option maxRecDepth 20000 in
theorem E_X9_empty {d : Nat} {v0 : Option Nm} {v1 : Int32} {h : MH} {u : Nat} {Q : MH → Prop} (H : F_X9_empty d v0 v1 h u Q) : T u_X9_empty d 0 [some (jR v0), some (jI v1)] [] h u (qV Q) := by
  unfold F_X9_empty at H
  refine T_aload_n (pc := 0) dX9_empty_0 rfl rfl ?_
  refine T_gR (pc := 1) fa_X9_9 dX9_empty_1 (gR_mono (fun x1 H => ?_) H)
  refine T_iload_n (pc := 4) dX9_empty_4 rfl rfl ?_
  refine T_iconst (pc := 5) (v := (-1)) dX9_empty_5 (by decide) ?_
  refine T_sI (pc := 6) dX9_empty_6 (sV_mono (fun h H => ?_) H)
  exact T_return (pc := 7) rfl dX9_empty_7 H
theorem I_X9_empty {d : Nat} {v0 : Option Nm} {v1 : Int32} {h : MH} {u : Nat} {K : MH → Nat → Prop} (u1 : Nat) (hu : u1 ≤ u) (H : F_X9_empty d v0 v1 h u1 (fun h2 => K h2 (u - u1))) : iV d u_X9_empty [jR v0, jI v1] h u K := inv.of u1 hu (Ct.of (by decide +kernel) rfl (Nat.le_of_ble_eq_true rfl) rfl (E_X9_empty H))
theorem dX9_emptyAll_0 : decode cX9_emptyAll 0 = .ok (.iconst 0, 1) := by decide +kernel
theorem dX9_emptyAll_1 : decode cX9_emptyAll 1 = .ok (.istore_n 1, 1) := by decide +kernel
theorem dX9_emptyAll_2 : decode cX9_emptyAll 2 = .ok (.iload_n 1, 1) := by decide +kernel
theorem dX9_emptyAll_3 : decode cX9_emptyAll 3 = .ok (.bipush 6, 2) := by decide +kernel
theorem dX9_emptyAll_5 : decode cX9_emptyAll 5 = .ok (.if_icmp .ge 16, 3) := by decide +kernel
theorem dX9_emptyAll_8 : decode cX9_emptyAll 8 = .ok (.aload_n 0, 1) := by decide +kernel
theorem dX9_emptyAll_9 : decode cX9_emptyAll 9 = .ok (.getfield 9, 3) := by decide +kernel
theorem dX9_emptyAll_12 : decode cX9_emptyAll 12 = .ok (.iload_n 1, 1) := by decide +kernel
theorem dX9_emptyAll_13 : decode cX9_emptyAll 13 = .ok (.iconst (-1), 1) := by decide +kernel
theorem dX9_emptyAll_14 : decode cX9_emptyAll 14 = .ok (.iastore, 1) := by decide +kernel
theorem dX9_emptyAll_15 : decode cX9_emptyAll 15 = .ok (.iinc 1 1, 3) := by decide +kernel
theorem dX9_emptyAll_18 : decode cX9_emptyAll 18 = .ok (.goto (-16), 3) := by decide +kernel
theorem dX9_emptyAll_21 : decode cX9_emptyAll 21 = .ok (.return_, 1) := by decide +kernel
def L_X9_emptyAll_2 (d : Nat) (v0 : Option Nm) (v1 : Int32) (h : MH) (u : Nat) (Q : MH → Prop) : Prop := T u_X9_emptyAll d 2 [some (jR v0), some (jI v1)] [] h u (qV Q)
def F_X9_emptyAll (d : Nat) (v0 : Option Nm) (h : MH) (u : Nat) (Q : MH → Prop) : Prop :=
  L_X9_emptyAll_2 d v0 0 h u Q
set_option maxRecDepth 20000 in
theorem E_X9_emptyAll {d : Nat} {v0 : Option Nm} {h : MH} {u : Nat} {Q : MH → Prop} (H : F_X9_emptyAll d v0 h u Q) : T u_X9_emptyAll d 0 [some (jR v0), none] [] h u (qV Q) := by
  unfold F_X9_emptyAll at H
  refine T_iconst (pc := 0) (v := 0) dX9_emptyAll_0 (by decide) ?_
  refine T_istore_n (pc := 1) (ls2 := [some (jR v0), some (jI 0)]) dX9_emptyAll_1 rfl (Nat.le_of_ble_eq_true rfl) rfl ?_
  exact T.forget H ⟨rfl, rfl, trivial⟩
def F_X9_emptyAll_2 (d : Nat) (v0 : Option Nm) (v1 : Int32) (h : MH) (u : Nat) (Q : MH → Prop) : Prop :=
  if 6 ≤ v1 then
    Q h
  else
    gR h v0 8 0 fun x1 =>
    sV .int h x1 v1 (jI (-1)) fun h =>
    L_X9_emptyAll_2 d v0 (v1 + 1) h u Q
set_option maxRecDepth 20000 in
theorem E_X9_emptyAll_2 {d : Nat} {v0 : Option Nm} {v1 : Int32} {h : MH} {u : Nat} {Q : MH → Prop} (H : F_X9_emptyAll_2 d v0 v1 h u Q) : T u_X9_emptyAll d 2 [some (jR v0), some (jI v1)] [] h u (qV Q) := by
  unfold F_X9_emptyAll_2 at H
  refine T_iload_n (pc := 2) dX9_emptyAll_2 rfl rfl ?_
  refine T_bipush (pc := 3) (v := 6) dX9_emptyAll_3 (by decide) ?_
  refine T_icmp_ge (pc := 5) (tgt := 21) dX9_emptyAll_5 (by decide) (fun hc => ?_) (fun hc => ?_)
  · rw [if_pos hc] at H
    exact T_return (pc := 21) rfl dX9_emptyAll_21 H
  · rw [if_neg hc] at H
    refine T_aload_n (pc := 8) dX9_emptyAll_8 rfl rfl ?_
    refine T_gR (pc := 9) fa_X9_9 dX9_emptyAll_9 (gR_mono (fun x1 H => ?_) H)
    refine T_iload_n (pc := 12) dX9_emptyAll_12 rfl rfl ?_
    refine T_iconst (pc := 13) (v := (-1)) dX9_emptyAll_13 (by decide) ?_
    refine T_sI (pc := 14) dX9_emptyAll_14 (sV_mono (fun h H => ?_) H)
    refine T_iinc (pc := 15) (v := v1 + 1) (ls2 := [some (jR v0), some (jI (v1 + 1))]) dX9_emptyAll_15 rfl rfl (Nat.le_of_ble_eq_true rfl) rfl ?_
    refine T_goto (pc := 18) (tgt := 2) dX9_emptyAll_18 (by decide) ?_
    exact T.forget H ⟨rfl, rfl, trivial⟩
theorem I_X9_emptyAll {d : Nat} {v0 : Option Nm} {h : MH} {u : Nat} {K : MH → Nat → Prop} (u1 : Nat) (hu : u1 ≤ u) (H : F_X9_emptyAll d v0 h u1 (fun h2 => K h2 (u - u1))) : iV d u_X9_emptyAll [jR v0] h u K := inv.of u1 hu (Ct.of (by decide +kernel) rfl (Nat.le_of_ble_eq_true rfl) rfl (E_X9_emptyAll H))
theorem dX9_faultFor_0 : decode cX9_faultFor 0 = .ok (.aload_n 0, 1) := by decide +kernel
theorem dX9_faultFor_1 : decode cX9_faultFor 1 = .ok (.getfield 9, 3) := by decide +kernel
theorem dX9_faultFor_4 : decode cX9_faultFor 4 = .ok (.iload_n 1, 1) := by decide +kernel
theorem dX9_faultFor_5 : decode cX9_faultFor 5 = .ok (.iaload, 1) := by decide +kernel
theorem dX9_faultFor_6 : decode cX9_faultFor 6 = .ok (.iconst (-1), 1) := by decide +kernel
theorem dX9_faultFor_7 : decode cX9_faultFor 7 = .ok (.if_icmp .ne 16, 3) := by decide +kernel
theorem dX9_faultFor_10 : decode cX9_faultFor 10 = .ok (.iload_n 2, 1) := by decide +kernel
theorem dX9_faultFor_11 : decode cX9_faultFor 11 = .ok (.invokestatic 19, 3) := by decide +kernel
theorem dX9_faultFor_14 : decode cX9_faultFor 14 = .ok (.ifCond .eq 7, 3) := by decide +kernel
theorem dX9_faultFor_17 : decode cX9_faultFor 17 = .ok (.iconst 1, 1) := by decide +kernel
theorem dX9_faultFor_18 : decode cX9_faultFor 18 = .ok (.goto 4, 3) := by decide +kernel
theorem dX9_faultFor_21 : decode cX9_faultFor 21 = .ok (.iconst 0, 1) := by decide +kernel
theorem dX9_faultFor_22 : decode cX9_faultFor 22 = .ok (.ireturn, 1) := by decide +kernel
theorem dX9_faultFor_23 : decode cX9_faultFor 23 = .ok (.aload_n 0, 1) := by decide +kernel
theorem dX9_faultFor_24 : decode cX9_faultFor 24 = .ok (.getfield 9, 3) := by decide +kernel
theorem dX9_faultFor_27 : decode cX9_faultFor 27 = .ok (.iload_n 1, 1) := by decide +kernel
theorem dX9_faultFor_28 : decode cX9_faultFor 28 = .ok (.iaload, 1) := by decide +kernel
theorem dX9_faultFor_29 : decode cX9_faultFor 29 = .ok (.iload_n 2, 1) := by decide +kernel
theorem dX9_faultFor_30 : decode cX9_faultFor 30 = .ok (.invokestatic 25, 3) := by decide +kernel
theorem dX9_faultFor_33 : decode cX9_faultFor 33 = .ok (.ifCond .eq 7, 3) := by decide +kernel
theorem dX9_faultFor_36 : decode cX9_faultFor 36 = .ok (.iconst 0, 1) := by decide +kernel
theorem dX9_faultFor_37 : decode cX9_faultFor 37 = .ok (.goto 4, 3) := by decide +kernel
theorem dX9_faultFor_40 : decode cX9_faultFor 40 = .ok (.iconst 3, 1) := by decide +kernel
theorem dX9_faultFor_41 : decode cX9_faultFor 41 = .ok (.ireturn, 1) := by decide +kernel
def F_X9_faultFor (d : Nat) (v0 : Option Nm) (v1 : Int32) (v2 : Int32) (h : MH) (u : Nat) (Q : Int32 → MH → Prop) : Prop :=
  gR h v0 8 0 fun x1 =>
  aI .int h x1 v1 fun x2 =>
  if x2 = (-1) then
    iI d u_X4_isNumber [jI v2] h u fun x6 h u =>
    if x6 = 0 then
      Q 0 h
    else
      Q 1 h
  else
    gR h v0 8 0 fun x3 =>
    aI .int h x3 v1 fun x4 =>
    iI d u_X4_isWidened [jI x4, jI v2] h u fun x5 h u =>
    if x5 = 0 then
      Q 3 h
    else
      Q 0 h
set_option maxRecDepth 20000 in
theorem E_X9_faultFor {d : Nat} {v0 : Option Nm} {v1 : Int32} {v2 : Int32} {h : MH} {u : Nat} {Q : Int32 → MH → Prop} (H : F_X9_faultFor d v0 v1 v2 h u Q) : T u_X9_faultFor (d + 1) 0 [some (jR v0), some (jI v1), some (jI v2)] [] h u (qI Q) := by
  unfold F_X9_faultFor at H
  refine T_aload_n (pc := 0) dX9_faultFor_0 rfl rfl ?_
  refine T_gR (pc := 1) fa_X9_9 dX9_faultFor_1 (gR_mono (fun x1 H => ?_) H)
  refine T_iload_n (pc := 4) dX9_faultFor_4 rfl rfl ?_
  refine T_aI (pc := 5) dX9_faultFor_5 (aI_mono (fun x2 H => ?_) H)
  refine T_iconst (pc := 6) (v := (-1)) dX9_faultFor_6 (by decide) ?_
  refine T_icmp_ne (pc := 7) (tgt := 23) dX9_faultFor_7 (by decide) (fun hc => ?_) (fun hc => ?_)
  · rw [if_neg hc] at H
    refine T_aload_n (pc := 23) dX9_faultFor_23 rfl rfl ?_
    refine T_gR (pc := 24) fa_X9_9 dX9_faultFor_24 (gR_mono (fun x3 H => ?_) H)
    refine T_iload_n (pc := 27) dX9_faultFor_27 rfl rfl ?_
    refine T_aI (pc := 28) dX9_faultFor_28 (aI_mono (fun x4 H => ?_) H)
    refine T_iload_n (pc := 29) dX9_faultFor_29 rfl rfl ?_
    refine T_invS (pc := 30) (av := [jI x4, jI v2]) (rest := []) dX9_faultFor_30 mf_X4_isWidened c_3_154 c_2_16 rfl (Nat.le_of_ble_eq_true rfl) rfl (iI_k (iI_mono (fun x5 h u H => ?_) H))
    refine T_if_eq (pc := 33) (tgt := 40) dX9_faultFor_33 (by decide) (fun hc => ?_) (fun hc => ?_)
    · rw [if_pos hc] at H
      refine T_iconst (pc := 40) (v := 3) dX9_faultFor_40 (by decide) ?_
      exact T_ireturn (pc := 41) rfl rfl dX9_faultFor_41 H
    · rw [if_neg hc] at H
      refine T_iconst (pc := 36) (v := 0) dX9_faultFor_36 (by decide) ?_
      refine T_goto (pc := 37) (tgt := 41) dX9_faultFor_37 (by decide) ?_
      exact T_ireturn (pc := 41) rfl rfl dX9_faultFor_41 H
  · rw [if_pos hc] at H
    refine T_iload_n (pc := 10) dX9_faultFor_10 rfl rfl ?_
    refine T_invS (pc := 11) (av := [jI v2]) (rest := []) dX9_faultFor_11 mf_X4_isNumber c_3_153 c_2_6 rfl (Nat.le_of_ble_eq_true rfl) rfl (iI_k (iI_mono (fun x6 h u H => ?_) H))
    refine T_if_eq (pc := 14) (tgt := 21) dX9_faultFor_14 (by decide) (fun hc => ?_) (fun hc => ?_)
    · rw [if_pos hc] at H
      refine T_iconst (pc := 21) (v := 0) dX9_faultFor_21 (by decide) ?_
      exact T_ireturn (pc := 22) rfl rfl dX9_faultFor_22 H
    · rw [if_neg hc] at H
      refine T_iconst (pc := 17) (v := 1) dX9_faultFor_17 (by decide) ?_
      refine T_goto (pc := 18) (tgt := 22) dX9_faultFor_18 (by decide) ?_
      exact T_ireturn (pc := 22) rfl rfl dX9_faultFor_22 H
theorem I_X9_faultFor {d : Nat} {v0 : Option Nm} {v1 : Int32} {v2 : Int32} {h : MH} {u : Nat} {K : Int32 → MH → Nat → Prop} (u1 : Nat) (hu : u1 ≤ u) (H : F_X9_faultFor d v0 v1 v2 h u1 (fun x h2 => K x h2 (u - u1))) : iI (d + 1) u_X9_faultFor [jR v0, jI v1, jI v2] h u K := inv.of u1 hu (Ct.of (by decide +kernel) rfl (Nat.le_of_ble_eq_true rfl) rfl (E_X9_faultFor H))
theorem dX9_widenedTo_0 : decode cX9_widenedTo 0 = .ok (.aload_n 0, 1) := by decide +kernel
theorem dX9_widenedTo_1 : decode cX9_widenedTo 1 = .ok (.getfield 9, 3) := by decide +kernel
theorem dX9_widenedTo_4 : decode cX9_widenedTo 4 = .ok (.iload_n 1, 1) := by decide +kernel
theorem dX9_widenedTo_5 : decode cX9_widenedTo 5 = .ok (.iaload, 1) := by decide +kernel
theorem dX9_widenedTo_6 : decode cX9_widenedTo 6 = .ok (.iconst (-1), 1) := by decide +kernel
theorem dX9_widenedTo_7 : decode cX9_widenedTo 7 = .ok (.if_icmp .ne 9, 3) := by decide +kernel
theorem dX9_widenedTo_10 : decode cX9_widenedTo 10 = .ok (.ldc2_w 29, 3) := by decide +kernel
theorem dX9_widenedTo_13 : decode cX9_widenedTo 13 = .ok (.goto 19, 3) := by decide +kernel
theorem dX9_widenedTo_16 : decode cX9_widenedTo 16 = .ok (.aload_n 0, 1) := by decide +kernel
theorem dX9_widenedTo_17 : decode cX9_widenedTo 17 = .ok (.getfield 9, 3) := by decide +kernel
theorem dX9_widenedTo_20 : decode cX9_widenedTo 20 = .ok (.iload_n 1, 1) := by decide +kernel
theorem dX9_widenedTo_21 : decode cX9_widenedTo 21 = .ok (.iaload, 1) := by decide +kernel
theorem dX9_widenedTo_22 : decode cX9_widenedTo 22 = .ok (.iload_n 2, 1) := by decide +kernel
theorem dX9_widenedTo_23 : decode cX9_widenedTo 23 = .ok (.aload_n 0, 1) := by decide +kernel
theorem dX9_widenedTo_24 : decode cX9_widenedTo 24 = .ok (.getfield 15, 3) := by decide +kernel
theorem dX9_widenedTo_27 : decode cX9_widenedTo 27 = .ok (.iload_n 1, 1) := by decide +kernel
theorem dX9_widenedTo_28 : decode cX9_widenedTo 28 = .ok (.laload, 1) := by decide +kernel
theorem dX9_widenedTo_29 : decode cX9_widenedTo 29 = .ok (.invokestatic 31, 3) := by decide +kernel
theorem dX9_widenedTo_32 : decode cX9_widenedTo 32 = .ok (.lreturn, 1) := by decide +kernel
def F_X9_widenedTo (d : Nat) (v0 : Option Nm) (v1 : Int32) (v2 : Int32) (h : MH) (u : Nat) (Q : Int64 → MH → Prop) : Prop :=
  gR h v0 8 0 fun x1 =>
  aI .int h x1 v1 fun x2 =>
  if x2 = (-1) then
    Q (-1) h
  else
    gR h v0 8 0 fun x3 =>
    aI .int h x3 v1 fun x4 =>
    gR h v0 8 1 fun x5 =>
    aL h x5 v1 fun x6 =>
    iL d u_X4_widen [jI x4, jI v2, jL x6] h u fun x7 h u =>
    Q x7 h
set_option maxRecDepth 20000 in
theorem E_X9_widenedTo {d : Nat} {v0 : Option Nm} {v1 : Int32} {v2 : Int32} {h : MH} {u : Nat} {Q : Int64 → MH → Prop} (H : F_X9_widenedTo d v0 v1 v2 h u Q) : T u_X9_widenedTo (d + 1) 0 [some (jR v0), some (jI v1), some (jI v2)] [] h u (qL Q) := by
  unfold F_X9_widenedTo at H
  refine T_aload_n (pc := 0) dX9_widenedTo_0 rfl rfl ?_
  refine T_gR (pc := 1) fa_X9_9 dX9_widenedTo_1 (gR_mono (fun x1 H => ?_) H)
  refine T_iload_n (pc := 4) dX9_widenedTo_4 rfl rfl ?_
  refine T_aI (pc := 5) dX9_widenedTo_5 (aI_mono (fun x2 H => ?_) H)
  refine T_iconst (pc := 6) (v := (-1)) dX9_widenedTo_6 (by decide) ?_
  refine T_icmp_ne (pc := 7) (tgt := 16) dX9_widenedTo_7 (by decide) (fun hc => ?_) (fun hc => ?_)
  · rw [if_neg hc] at H
    refine T_aload_n (pc := 16) dX9_widenedTo_16 rfl rfl ?_
    refine T_gR (pc := 17) fa_X9_9 dX9_widenedTo_17 (gR_mono (fun x3 H => ?_) H)
    refine T_iload_n (pc := 20) dX9_widenedTo_20 rfl rfl ?_
    refine T_aI (pc := 21) dX9_widenedTo_21 (aI_mono (fun x4 H => ?_) H)
    refine T_iload_n (pc := 22) dX9_widenedTo_22 rfl rfl ?_
    refine T_aload_n (pc := 23) dX9_widenedTo_23 rfl rfl ?_
    refine T_gR (pc := 24) fa_X9_15 dX9_widenedTo_24 (gR_mono (fun x5 H => ?_) H)
    refine T_iload_n (pc := 27) dX9_widenedTo_27 rfl rfl ?_
    refine T_aL (pc := 28) dX9_widenedTo_28 (aL_mono (fun x6 H => ?_) H)
    refine T_invS (pc := 29) (av := [jI x4, jI v2, jL x6]) (rest := []) dX9_widenedTo_29 mf_X4_widen c_3_160 c_2_40 rfl (Nat.le_of_ble_eq_true rfl) rfl (iL_k (iL_mono (fun x7 h u H => ?_) H))
    exact T_lreturn (pc := 32) rfl dX9_widenedTo_32 H
  · rw [if_pos hc] at H
    refine T_ldc2 (pc := 10) (v := (-1)) dX9_widenedTo_10 c_3_159 ?_
    refine T_goto (pc := 13) (tgt := 32) dX9_widenedTo_13 (by decide) ?_
    exact T_lreturn (pc := 32) rfl dX9_widenedTo_32 H
theorem I_X9_widenedTo {d : Nat} {v0 : Option Nm} {v1 : Int32} {v2 : Int32} {h : MH} {u : Nat} {K : Int64 → MH → Nat → Prop} (u1 : Nat) (hu : u1 ≤ u) (H : F_X9_widenedTo d v0 v1 v2 h u1 (fun x h2 => K x h2 (u - u1))) : iL (d + 1) u_X9_widenedTo [jR v0, jI v1, jI v2] h u K := inv.of u1 hu (Ct.of (by decide +kernel) rfl (Nat.le_of_ble_eq_true rfl) rfl (E_X9_widenedTo H))
