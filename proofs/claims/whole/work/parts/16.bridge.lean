theorem dX11_init_0 : decode cX11_init 0 = .ok (.aload_n 0, 1) := by decide +kernel
theorem dX11_init_1 : decode cX11_init 1 = .ok (.invokespecial 3, 3) := by decide +kernel
theorem dX11_init_4 : decode cX11_init 4 = .ok (.aload_n 0, 1) := by decide +kernel
theorem dX11_init_5 : decode cX11_init 5 = .ok (.new 9, 3) := by decide +kernel
theorem dX11_init_8 : decode cX11_init 8 = .ok (.dup, 1) := by decide +kernel
theorem dX11_init_9 : decode cX11_init 9 = .ok (.invokespecial 11, 3) := by decide +kernel
theorem dX11_init_12 : decode cX11_init 12 = .ok (.putfield 12, 3) := by decide +kernel
theorem dX11_init_15 : decode cX11_init 15 = .ok (.aload_n 0, 1) := by decide +kernel
theorem dX11_init_16 : decode cX11_init 16 = .ok (.new 18, 3) := by decide +kernel
theorem dX11_init_19 : decode cX11_init 19 = .ok (.dup, 1) := by decide +kernel
theorem dX11_init_20 : decode cX11_init 20 = .ok (.invokespecial 20, 3) := by decide +kernel
theorem dX11_init_23 : decode cX11_init 23 = .ok (.putfield 21, 3) := by decide +kernel
theorem dX11_init_26 : decode cX11_init 26 = .ok (.aload_n 0, 1) := by decide +kernel
theorem dX11_init_27 : decode cX11_init 27 = .ok (.new 25, 3) := by decide +kernel
theorem dX11_init_30 : decode cX11_init 30 = .ok (.dup, 1) := by decide +kernel
theorem dX11_init_31 : decode cX11_init 31 = .ok (.aload_n 0, 1) := by decide +kernel
theorem dX11_init_32 : decode cX11_init 32 = .ok (.getfield 12, 3) := by decide +kernel
theorem dX11_init_35 : decode cX11_init 35 = .ok (.invokespecial 27, 3) := by decide +kernel
theorem dX11_init_38 : decode cX11_init 38 = .ok (.putfield 30, 3) := by decide +kernel
theorem dX11_init_41 : decode cX11_init 41 = .ok (.aload_n 0, 1) := by decide +kernel
theorem dX11_init_42 : decode cX11_init 42 = .ok (.new 34, 3) := by decide +kernel
theorem dX11_init_45 : decode cX11_init 45 = .ok (.dup, 1) := by decide +kernel
theorem dX11_init_46 : decode cX11_init 46 = .ok (.aload_n 0, 1) := by decide +kernel
theorem dX11_init_47 : decode cX11_init 47 = .ok (.getfield 12, 3) := by decide +kernel
theorem dX11_init_50 : decode cX11_init 50 = .ok (.invokespecial 36, 3) := by decide +kernel
theorem dX11_init_53 : decode cX11_init 53 = .ok (.putfield 37, 3) := by decide +kernel
theorem dX11_init_56 : decode cX11_init 56 = .ok (.aload_n 0, 1) := by decide +kernel
theorem dX11_init_57 : decode cX11_init 57 = .ok (.new 41, 3) := by decide +kernel
theorem dX11_init_60 : decode cX11_init 60 = .ok (.dup, 1) := by decide +kernel
theorem dX11_init_61 : decode cX11_init 61 = .ok (.aload_n 0, 1) := by decide +kernel
theorem dX11_init_62 : decode cX11_init 62 = .ok (.getfield 12, 3) := by decide +kernel
theorem dX11_init_65 : decode cX11_init 65 = .ok (.invokespecial 43, 3) := by decide +kernel
theorem dX11_init_68 : decode cX11_init 68 = .ok (.putfield 44, 3) := by decide +kernel
theorem dX11_init_71 : decode cX11_init 71 = .ok (.aload_n 0, 1) := by decide +kernel
theorem dX11_init_72 : decode cX11_init 72 = .ok (.bipush 16, 2) := by decide +kernel
theorem dX11_init_74 : decode cX11_init 74 = .ok (.anewarray 48, 3) := by decide +kernel
theorem dX11_init_77 : decode cX11_init 77 = .ok (.putfield 50, 3) := by decide +kernel
theorem dX11_init_80 : decode cX11_init 80 = .ok (.aload_n 0, 1) := by decide +kernel
theorem dX11_init_81 : decode cX11_init 81 = .ok (.bipush 8, 2) := by decide +kernel
theorem dX11_init_83 : decode cX11_init 83 = .ok (.newarray .int, 2) := by decide +kernel
theorem dX11_init_85 : decode cX11_init 85 = .ok (.putfield 54, 3) := by decide +kernel
theorem dX11_init_88 : decode cX11_init 88 = .ok (.aload_n 0, 1) := by decide +kernel
theorem dX11_init_89 : decode cX11_init 89 = .ok (.bipush 8, 2) := by decide +kernel
theorem dX11_init_91 : decode cX11_init 91 = .ok (.newarray .boolean, 2) := by decide +kernel
theorem dX11_init_93 : decode cX11_init 93 = .ok (.putfield 58, 3) := by decide +kernel
theorem dX11_init_96 : decode cX11_init 96 = .ok (.return_, 1) := by decide +kernel
def F_X11_init (d : Nat) (v0 : Option Nm) (h : MH) (u : Nat) (Q : MH → Prop) : Prop :=
  nn v0 <|
  nO h u 6 [jR none, jR none, jI 0, jI 0] fun x1 h u =>
  iV d u_X7_init [jR (some x1)] h u fun h u =>
  pV h v0 10 0 (jR (some x1)) fun h =>
  nO h u 8 [jR none, jR none] fun x3 h u =>
  iV d u_X9_init [jR (some x3)] h u fun h u =>
  pV h v0 10 1 (jR (some x3)) fun h =>
  nO h u 1 [jR none, jR none, jI 0, jI 0] fun x5 h u =>
  gR h v0 10 0 fun x6 =>
  iV d u_X1_init [jR (some x5), jR x6] h u fun h u =>
  pV h v0 10 2 (jR (some x5)) fun h =>
  nO h u 0 [jR none] fun x8 h u =>
  gR h v0 10 0 fun x9 =>
  iV d u_X0_init [jR (some x8), jR x9] h u fun h u =>
  pV h v0 10 3 (jR (some x8)) fun h =>
  nO h u 5 [jR none, jR none, jR none] fun x11 h u =>
  gR h v0 10 0 fun x12 =>
  iV d u_X6_init [jR (some x11), jR x12] h u fun h u =>
  pV h v0 10 4 (jR (some x11)) fun h =>
  nA (.object "RecordBridge$Kind") h u 16 fun x14 h u =>
  pV h v0 10 5 (jR (some x14)) fun h =>
  nA .int h u 8 fun x15 h u =>
  pV h v0 10 6 (jR (some x15)) fun h =>
  nA .boolean h u 8 fun x16 h u =>
  pV h v0 10 7 (jR (some x16)) fun h =>
  Q h
set_option maxRecDepth 20000 in
theorem E_X11_init {d : Nat} {v0 : Option Nm} {h : MH} {u : Nat} {Q : MH → Prop} (H : F_X11_init d v0 h u Q) : T u_X11_init (d + 1) 0 [some (jR v0)] [] h u (qV Q) := by
  unfold F_X11_init at H
  refine T_aload_n (pc := 0) dX11_init_0 rfl rfl ?_
  obtain ⟨n0, H0, H⟩ := nn_out H
  refine T_objInit (pc := 1) dX11_init_1 c_1_24 c_1_25 c_1_26 H0 (Nat.le_of_ble_eq_true rfl) ?_
  refine T_aload_n (pc := 4) dX11_init_4 rfl rfl ?_
  refine T_nO (pc := 5) nf_X11_9 dX11_init_5 (nO_mono (fun x1 h u H => ?_) H)
  refine T_dup (pc := 8) rfl dX11_init_8 ?_
  refine T_invI (pc := 9) (av := []) (rest := [jR (some x1), jR v0]) dX11_init_9 mf_X7_init rfl rfl c_1_29 c_1_30 rfl (Nat.le_of_ble_eq_true rfl) rfl (iV_k (iV_mono (fun h u H => ?_) H))
  refine T_pVF (pc := 12) fa_X11_12 rfl rfl dX11_init_12 trivial (pV_mono (fun h H => ?_) H)
  refine T_aload_n (pc := 15) dX11_init_15 rfl rfl ?_
  refine T_nO (pc := 16) nf_X11_18 dX11_init_16 (nO_mono (fun x3 h u H => ?_) H)
  refine T_dup (pc := 19) rfl dX11_init_19 ?_
  refine T_invI (pc := 20) (av := []) (rest := [jR (some x3), jR v0]) dX11_init_20 mf_X9_init rfl rfl c_1_54 c_1_55 rfl (Nat.le_of_ble_eq_true rfl) rfl (iV_k (iV_mono (fun h u H => ?_) H))
  refine T_pVF (pc := 23) fa_X11_21 rfl rfl dX11_init_23 trivial (pV_mono (fun h H => ?_) H)
  refine T_aload_n (pc := 26) dX11_init_26 rfl rfl ?_
  refine T_nO (pc := 27) nf_X11_25 dX11_init_27 (nO_mono (fun x5 h u H => ?_) H)
  refine T_dup (pc := 30) rfl dX11_init_30 ?_
  refine T_aload_n (pc := 31) dX11_init_31 rfl rfl ?_
  refine T_gR (pc := 32) fa_X11_12 dX11_init_32 (gR_mono (fun x6 H => ?_) H)
  refine T_invI (pc := 35) (av := [jR x6]) (rest := [jR (some x5), jR v0]) dX11_init_35 mf_X1_init rfl rfl c_1_69 c_1_70 rfl (Nat.le_of_ble_eq_true rfl) rfl (iV_k (iV_mono (fun h u H => ?_) H))
  refine T_pVF (pc := 38) fa_X11_30 rfl rfl dX11_init_38 trivial (pV_mono (fun h H => ?_) H)
  refine T_aload_n (pc := 41) dX11_init_41 rfl rfl ?_
  refine T_nO (pc := 42) nf_X11_34 dX11_init_42 (nO_mono (fun x8 h u H => ?_) H)
  refine T_dup (pc := 45) rfl dX11_init_45 ?_
  refine T_aload_n (pc := 46) dX11_init_46 rfl rfl ?_
  refine T_gR (pc := 47) fa_X11_12 dX11_init_47 (gR_mono (fun x9 H => ?_) H)
  refine T_invI (pc := 50) (av := [jR x9]) (rest := [jR (some x8), jR v0]) dX11_init_50 mf_X0_init rfl rfl c_1_90 c_1_91 rfl (Nat.le_of_ble_eq_true rfl) rfl (iV_k (iV_mono (fun h u H => ?_) H))
  refine T_pVF (pc := 53) fa_X11_37 rfl rfl dX11_init_53 trivial (pV_mono (fun h H => ?_) H)
  refine T_aload_n (pc := 56) dX11_init_56 rfl rfl ?_
  refine T_nO (pc := 57) nf_X11_41 dX11_init_57 (nO_mono (fun x11 h u H => ?_) H)
  refine T_dup (pc := 60) rfl dX11_init_60 ?_
  refine T_aload_n (pc := 61) dX11_init_61 rfl rfl ?_
  refine T_gR (pc := 62) fa_X11_12 dX11_init_62 (gR_mono (fun x12 H => ?_) H)
  refine T_invI (pc := 65) (av := [jR x12]) (rest := [jR (some x11), jR v0]) dX11_init_65 mf_X6_init rfl rfl c_1_100 c_1_101 rfl (Nat.le_of_ble_eq_true rfl) rfl (iV_k (iV_mono (fun h u H => ?_) H))
  refine T_pVF (pc := 68) fa_X11_44 rfl rfl dX11_init_68 trivial (pV_mono (fun h H => ?_) H)
  refine T_aload_n (pc := 71) dX11_init_71 rfl rfl ?_
  refine T_bipush (pc := 72) (v := 16) dX11_init_72 (by decide) ?_
  refine T_nAR (pc := 74) dX11_init_74 (by decide) c_1_139 (by decide) (nA_mono (fun x14 h u H => ?_) H)
  refine T_pVF (pc := 77) fa_X11_50 rfl rfl dX11_init_77 trivial (pV_mono (fun h H => ?_) H)
  refine T_aload_n (pc := 80) dX11_init_80 rfl rfl ?_
  refine T_bipush (pc := 81) (v := 8) dX11_init_81 (by decide) ?_
  refine T_nA (pc := 83) dX11_init_83 rfl (by decide) c_1_65 (nA_mono (fun x15 h u H => ?_) H)
  refine T_pVF (pc := 85) fa_X11_54 rfl rfl dX11_init_85 trivial (pV_mono (fun h H => ?_) H)
  refine T_aload_n (pc := 88) dX11_init_88 rfl rfl ?_
  refine T_bipush (pc := 89) (v := 8) dX11_init_89 (by decide) ?_
  refine T_nA (pc := 91) dX11_init_91 rfl (by decide) c_1_184 (nA_mono (fun x16 h u H => ?_) H)
  refine T_pVF (pc := 93) fa_X11_58 rfl rfl dX11_init_93 trivial (pV_mono (fun h H => ?_) H)
  exact T_return (pc := 96) rfl dX11_init_96 H
theorem I_X11_init {d : Nat} {v0 : Option Nm} {h : MH} {u : Nat} {K : MH → Nat → Prop} (u1 : Nat) (hu : u1 ≤ u) (H : F_X11_init d v0 h u1 (fun h2 => K h2 (u - u1))) : iV (d + 1) u_X11_init [jR v0] h u K := inv.of u1 hu (Ct.of (by decide +kernel) rfl (Nat.le_of_ble_eq_true rfl) rfl (E_X11_init H))
theorem dX11_row_0 : decode cX11_row 0 = .ok (.iload_n 1, 1) := by decide +kernel
theorem dX11_row_1 : decode cX11_row 1 = .ok (.iconst 0, 1) := by decide +kernel
theorem dX11_row_2 : decode cX11_row 2 = .ok (.bipush 8, 2) := by decide +kernel
theorem dX11_row_4 : decode cX11_row 4 = .ok (.invokestatic 64, 3) := by decide +kernel
theorem dX11_row_7 : decode cX11_row 7 = .ok (.ifCond .eq 9, 3) := by decide +kernel
theorem dX11_row_10 : decode cX11_row 10 = .ok (.iload_n 2, 1) := by decide +kernel
theorem dX11_row_11 : decode cX11_row 11 = .ok (.bipush 20, 2) := by decide +kernel
theorem dX11_row_13 : decode cX11_row 13 = .ok (.if_icmp .le 6, 3) := by decide +kernel
theorem dX11_row_16 : decode cX11_row 16 = .ok (.bipush (-2), 2) := by decide +kernel
theorem dX11_row_18 : decode cX11_row 18 = .ok (.ireturn, 1) := by decide +kernel
theorem dX11_row_19 : decode cX11_row 19 = .ok (.aload_n 0, 1) := by decide +kernel
theorem dX11_row_20 : decode cX11_row 20 = .ok (.getfield 12, 3) := by decide +kernel
theorem dX11_row_23 : decode cX11_row 23 = .ok (.iconst 1, 1) := by decide +kernel
theorem dX11_row_24 : decode cX11_row 24 = .ok (.invokevirtual 68, 3) := by decide +kernel
theorem dX11_row_27 : decode cX11_row 27 = .ok (.ifCond .ne 6, 3) := by decide +kernel
theorem dX11_row_30 : decode cX11_row 30 = .ok (.bipush (-4), 2) := by decide +kernel
theorem dX11_row_32 : decode cX11_row 32 = .ok (.ireturn, 1) := by decide +kernel
theorem dX11_row_33 : decode cX11_row 33 = .ok (.iload_n 2, 1) := by decide +kernel
theorem dX11_row_34 : decode cX11_row 34 = .ok (.ifCond .ge 9, 3) := by decide +kernel
theorem dX11_row_37 : decode cX11_row 37 = .ok (.aload_n 0, 1) := by decide +kernel
theorem dX11_row_38 : decode cX11_row 38 = .ok (.iconst 4, 1) := by decide +kernel
theorem dX11_row_39 : decode cX11_row 39 = .ok (.invokevirtual 72, 3) := by decide +kernel
theorem dX11_row_42 : decode cX11_row 42 = .ok (.ireturn, 1) := by decide +kernel
theorem dX11_row_43 : decode cX11_row 43 = .ok (.aload_n 0, 1) := by decide +kernel
theorem dX11_row_44 : decode cX11_row 44 = .ok (.getfield 12, 3) := by decide +kernel
theorem dX11_row_47 : decode cX11_row 47 = .ok (.iload_n 1, 1) := by decide +kernel
theorem dX11_row_48 : decode cX11_row 48 = .ok (.iload_n 2, 1) := by decide +kernel
theorem dX11_row_49 : decode cX11_row 49 = .ok (.iconst 0, 1) := by decide +kernel
theorem dX11_row_50 : decode cX11_row 50 = .ok (.invokevirtual 76, 3) := by decide +kernel
theorem dX11_row_53 : decode cX11_row 53 = .ok (.getfield 80, 3) := by decide +kernel
theorem dX11_row_56 : decode cX11_row 56 = .ok (.ireturn, 1) := by decide +kernel
def F_X11_row (d : Nat) (v0 : Option Nm) (v1 : Int32) (v2 : Int32) (h : MH) (u : Nat) (Q : Int32 → MH → Prop) : Prop :=
  iI d u_X11_isWithin [jI v1, jI 0, jI 8] h u fun x1 h u =>
  if x1 = 0 then
    Q (-2) h
  else
    if v2 ≤ 20 then
      gR h v0 10 0 fun x2 =>
      rc h x2 6 ∧ iI d u_X7_hasRoomForRows [jR x2, jI 1] h u fun x3 h u =>
      if x3 = 0 then
        Q (-4) h
      else
        if 0 ≤ v2 then
          gR h v0 10 0 fun x4 =>
          rc h x4 6 ∧ iR d u_X7_addRow [jR x4, jI v1, jI v2, jI 0] h u fun x5 h u =>
          gI h x5 4 0 fun x6 =>
          Q x6 h
        else
          rc h v0 10 ∧ iI d u_X11_failed [jR v0, jI 4] h u fun x7 h u =>
          Q x7 h
    else
      Q (-2) h
set_option maxRecDepth 20000 in
theorem E_X11_row {d : Nat} {v0 : Option Nm} {v1 : Int32} {v2 : Int32} {h : MH} {u : Nat} {Q : Int32 → MH → Prop} (H : F_X11_row d v0 v1 v2 h u Q) : T u_X11_row (d + 1) 0 [some (jR v0), some (jI v1), some (jI v2)] [] h u (qI Q) := by
  unfold F_X11_row at H
  refine T_iload_n (pc := 0) dX11_row_0 rfl rfl ?_
  refine T_iconst (pc := 1) (v := 0) dX11_row_1 (by decide) ?_
  refine T_bipush (pc := 2) (v := 8) dX11_row_2 (by decide) ?_
  refine T_invS (pc := 4) (av := [jI v1, jI 0, jI 8]) (rest := []) dX11_row_4 mf_X11_isWithin c_1_189 c_1_190 rfl (Nat.le_of_ble_eq_true rfl) rfl (iI_k (iI_mono (fun x1 h u H => ?_) H))
  refine T_if_eq (pc := 7) (tgt := 16) dX11_row_7 (by decide) (fun hc => ?_) (fun hc => ?_)
  · rw [if_pos hc] at H
    refine T_bipush (pc := 16) (v := (-2)) dX11_row_16 (by decide) ?_
    exact T_ireturn (pc := 18) rfl rfl dX11_row_18 H
  · rw [if_neg hc] at H
    refine T_iload_n (pc := 10) dX11_row_10 rfl rfl ?_
    refine T_bipush (pc := 11) (v := 20) dX11_row_11 (by decide) ?_
    refine T_icmp_le (pc := 13) (tgt := 19) dX11_row_13 (by decide) (fun hc => ?_) (fun hc => ?_)
    · rw [if_pos hc] at H
      refine T_aload_n (pc := 19) dX11_row_19 rfl rfl ?_
      refine T_gR (pc := 20) fa_X11_12 dX11_row_20 (gR_mono (fun x2 H => ?_) H)
      refine T_iconst (pc := 23) (v := 1) dX11_row_23 (by decide) ?_
      obtain ⟨H0, H⟩ := H
      refine T_iV (pc := 24) (ci := 6) (av := [jI 1]) (rest := []) (o := x2) dX11_row_24 mf_X7_hasRoomForRows c_1_192 c_1_193 c_1_194 rfl rfl (Nat.le_of_ble_eq_true rfl) rfl H0 (iI_k (iI_mono (fun x3 h u H => ?_) H))
      refine T_if_ne (pc := 27) (tgt := 33) dX11_row_27 (by decide) (fun hc => ?_) (fun hc => ?_)
      · rw [if_neg hc] at H
        refine T_iload_n (pc := 33) dX11_row_33 rfl rfl ?_
        refine T_if_ge (pc := 34) (tgt := 43) dX11_row_34 (by decide) (fun hc => ?_) (fun hc => ?_)
        · rw [if_pos hc] at H
          refine T_aload_n (pc := 43) dX11_row_43 rfl rfl ?_
          refine T_gR (pc := 44) fa_X11_12 dX11_row_44 (gR_mono (fun x4 H => ?_) H)
          refine T_iload_n (pc := 47) dX11_row_47 rfl rfl ?_
          refine T_iload_n (pc := 48) dX11_row_48 rfl rfl ?_
          refine T_iconst (pc := 49) (v := 0) dX11_row_49 (by decide) ?_
          obtain ⟨H0, H⟩ := H
          refine T_iV (pc := 50) (ci := 6) (av := [jI v1, jI v2, jI 0]) (rest := []) (o := x4) dX11_row_50 mf_X7_addRow c_1_200 c_1_201 c_1_202 rfl rfl (Nat.le_of_ble_eq_true rfl) rfl H0 (iR_k (iR_mono (fun x5 h u H => ?_) H))
          refine T_gI (pc := 53) fa_X11_80 dX11_row_53 (gI_mono (fun x6 H => ?_) H)
          exact T_ireturn (pc := 56) rfl rfl dX11_row_56 H
        · rw [if_neg hc] at H
          refine T_aload_n (pc := 37) dX11_row_37 rfl rfl ?_
          refine T_iconst (pc := 38) (v := 4) dX11_row_38 (by decide) ?_
          obtain ⟨H0, H⟩ := H
          refine T_iV (pc := 39) (ci := 10) (av := [jI 4]) (rest := []) (o := v0) dX11_row_39 mf_X11_failed c_1_196 c_1_198 pr_X11_failed rfl rfl (Nat.le_of_ble_eq_true rfl) rfl H0 (iI_k (iI_mono (fun x7 h u H => ?_) H))
          exact T_ireturn (pc := 42) rfl rfl dX11_row_42 H
      · rw [if_pos hc] at H
        refine T_bipush (pc := 30) (v := (-4)) dX11_row_30 (by decide) ?_
        exact T_ireturn (pc := 32) rfl rfl dX11_row_32 H
    · rw [if_neg hc] at H
      refine T_bipush (pc := 16) (v := (-2)) dX11_row_16 (by decide) ?_
      exact T_ireturn (pc := 18) rfl rfl dX11_row_18 H
theorem I_X11_row {d : Nat} {v0 : Option Nm} {v1 : Int32} {v2 : Int32} {h : MH} {u : Nat} {K : Int32 → MH → Nat → Prop} (u1 : Nat) (hu : u1 ≤ u) (H : F_X11_row d v0 v1 v2 h u1 (fun x h2 => K x h2 (u - u1))) : iI (d + 1) u_X11_row [jR v0, jI v1, jI v2] h u K := inv.of u1 hu (Ct.of (by decide +kernel) rfl (Nat.le_of_ble_eq_true rfl) rfl (E_X11_row H))
theorem dX11_put_0 : decode cX11_put 0 = .ok (.aload_n 0, 1) := by decide +kernel
theorem dX11_put_1 : decode cX11_put 1 = .ok (.getfield 12, 3) := by decide +kernel
theorem dX11_put_4 : decode cX11_put 4 = .ok (.iload_n 1, 1) := by decide +kernel
theorem dX11_put_5 : decode cX11_put 5 = .ok (.i2l, 1) := by decide +kernel
theorem dX11_put_6 : decode cX11_put 6 = .ok (.invokevirtual 86, 3) := by decide +kernel
theorem dX11_put_9 : decode cX11_put 9 = .ok (.astore 6, 2) := by decide +kernel
theorem dX11_put_11 : decode cX11_put 11 = .ok (.aload 6, 2) := by decide +kernel
theorem dX11_put_13 : decode cX11_put 13 = .ok (.ifnonnull 5, 3) := by decide +kernel
theorem dX11_put_16 : decode cX11_put 16 = .ok (.iconst (-1), 1) := by decide +kernel
theorem dX11_put_17 : decode cX11_put 17 = .ok (.ireturn, 1) := by decide +kernel
theorem dX11_put_18 : decode cX11_put 18 = .ok (.iload_n 3, 1) := by decide +kernel
theorem dX11_put_19 : decode cX11_put 19 = .ok (.invokestatic 90, 3) := by decide +kernel
theorem dX11_put_22 : decode cX11_put 22 = .ok (.ifCond .ne 6, 3) := by decide +kernel
theorem dX11_put_25 : decode cX11_put 25 = .ok (.bipush (-2), 2) := by decide +kernel
theorem dX11_put_27 : decode cX11_put 27 = .ok (.ireturn, 1) := by decide +kernel
theorem dX11_put_28 : decode cX11_put 28 = .ok (.aload 6, 2) := by decide +kernel
theorem dX11_put_30 : decode cX11_put 30 = .ok (.iload_n 2, 1) := by decide +kernel
theorem dX11_put_31 : decode cX11_put 31 = .ok (.iload_n 3, 1) := by decide +kernel
theorem dX11_put_32 : decode cX11_put 32 = .ok (.aload 6, 2) := by decide +kernel
theorem dX11_put_34 : decode cX11_put 34 = .ok (.getfield 93, 3) := by decide +kernel
theorem dX11_put_37 : decode cX11_put 37 = .ok (.invokestatic 96, 3) := by decide +kernel
theorem dX11_put_40 : decode cX11_put 40 = .ok (.istore 7, 2) := by decide +kernel
theorem dX11_put_42 : decode cX11_put 42 = .ok (.iload 7, 2) := by decide +kernel
theorem dX11_put_44 : decode cX11_put 44 = .ok (.ifCond .eq 10, 3) := by decide +kernel
theorem dX11_put_47 : decode cX11_put 47 = .ok (.aload_n 0, 1) := by decide +kernel
theorem dX11_put_48 : decode cX11_put 48 = .ok (.iload 7, 2) := by decide +kernel
theorem dX11_put_50 : decode cX11_put 50 = .ok (.invokevirtual 72, 3) := by decide +kernel
theorem dX11_put_53 : decode cX11_put 53 = .ok (.ireturn, 1) := by decide +kernel
theorem dX11_put_54 : decode cX11_put 54 = .ok (.aload 6, 2) := by decide +kernel
theorem dX11_put_56 : decode cX11_put 56 = .ok (.getfield 100, 3) := by decide +kernel
theorem dX11_put_59 : decode cX11_put 59 = .ok (.iload_n 2, 1) := by decide +kernel
theorem dX11_put_60 : decode cX11_put 60 = .ok (.iload_n 3, 1) := by decide +kernel
theorem dX11_put_61 : decode cX11_put 61 = .ok (.aload 6, 2) := by decide +kernel
theorem dX11_put_63 : decode cX11_put 63 = .ok (.getfield 93, 3) := by decide +kernel
theorem dX11_put_66 : decode cX11_put 66 = .ok (.iload_n 3, 1) := by decide +kernel
theorem dX11_put_67 : decode cX11_put 67 = .ok (.lload 4, 2) := by decide +kernel
theorem dX11_put_69 : decode cX11_put 69 = .ok (.invokestatic 104, 3) := by decide +kernel
theorem dX11_put_72 : decode cX11_put 72 = .ok (.invokestatic 108, 3) := by decide +kernel
theorem dX11_put_75 : decode cX11_put 75 = .ok (.lastore, 1) := by decide +kernel
theorem dX11_put_76 : decode cX11_put 76 = .ok (.iconst 1, 1) := by decide +kernel
theorem dX11_put_77 : decode cX11_put 77 = .ok (.ireturn, 1) := by decide +kernel
def F_X11_put (d : Nat) (v0 : Option Nm) (v1 : Int32) (v2 : Int32) (v3 : Int32) (v4 : Int64) (h : MH) (u : Nat) (Q : Int32 → MH → Prop) : Prop :=
  gR h v0 10 0 fun x1 =>
  rc h x1 6 ∧ iR d u_X7_findRow [jR x1, jL (v1.toInt64)] h u fun x2 h u =>
  nl x2 (
    Q (-1) h) (
    iI d u_X4_isNumber [jI v3] h u fun x3 h u =>
    if x3 = 0 then
      Q (-2) h
    else
      gI h x2 4 1 fun x4 =>
      iI d u_X11_numberFault [jR x2, jI v2, jI v3, jI x4] h u fun x5 h u =>
      if x5 = 0 then
        gR h x2 4 2 fun x6 =>
        gI h x2 4 1 fun x7 =>
        iL d u_X4_come [jI v3, jL v4] h u fun x8 h u =>
        iL d u_X4_widen [jI v3, jI x7, jL x8] h u fun x9 h u =>
        sV .long h x6 v2 (jL x9) fun h =>
        Q 1 h
      else
        rc h v0 10 ∧ iI d u_X11_failed [jR v0, jI x5] h u fun x10 h u =>
        Q x10 h)
set_option maxRecDepth 20000 in
theorem E_X11_put {d : Nat} {v0 : Option Nm} {v1 : Int32} {v2 : Int32} {v3 : Int32} {v4 : Int64} {h : MH} {u : Nat} {Q : Int32 → MH → Prop} (H : F_X11_put d v0 v1 v2 v3 v4 h u Q) : T u_X11_put (d + 1) 0 [some (jR v0), some (jI v1), some (jI v2), some (jI v3), some (jL v4), none, none, none] [] h u (qI Q) := by
  unfold F_X11_put at H
  refine T_aload_n (pc := 0) dX11_put_0 rfl rfl ?_
  refine T_gR (pc := 1) fa_X11_12 dX11_put_1 (gR_mono (fun x1 H => ?_) H)
  refine T_iload_n (pc := 4) dX11_put_4 rfl rfl ?_
  refine T_i2l (pc := 5) dX11_put_5 ?_
  obtain ⟨H0, H⟩ := H
  refine T_iV (pc := 6) (ci := 6) (av := [jL (v1.toInt64)]) (rest := []) (o := x1) dX11_put_6 mf_X7_findRow c_2_1 c_2_2 c_2_3 rfl rfl (Nat.le_of_ble_eq_true rfl) rfl H0 (iR_k (iR_mono (fun x2 h u H => ?_) H))
  refine T_astore (pc := 9) (ls2 := [some (jR v0), some (jI v1), some (jI v2), some (jI v3), some (jL v4), none, some (jR x2), none]) dX11_put_9 (Nat.le_of_ble_eq_true rfl) rfl ?_
  refine T_aload (pc := 11) dX11_put_11 rfl ?_
  refine T_ifnonnull (pc := 13) (tgt := 18) dX11_put_13 (by decide) (fun ho => ?_) (fun n ho => ?_)
  · replace H := nl_n ho H
    refine T_iconst (pc := 16) (v := (-1)) dX11_put_16 (by decide) ?_
    exact T_ireturn (pc := 17) rfl rfl dX11_put_17 H
  · replace H := nl_s ho H
    refine T_iload_n (pc := 18) dX11_put_18 rfl rfl ?_
    refine T_invS (pc := 19) (av := [jI v3]) (rest := []) dX11_put_19 mf_X4_isNumber c_2_5 c_2_6 rfl (Nat.le_of_ble_eq_true rfl) rfl (iI_k (iI_mono (fun x3 h u H => ?_) H))
    refine T_if_ne (pc := 22) (tgt := 28) dX11_put_22 (by decide) (fun hc => ?_) (fun hc => ?_)
    · rw [if_neg hc] at H
      refine T_aload (pc := 28) dX11_put_28 rfl ?_
      refine T_iload_n (pc := 30) dX11_put_30 rfl rfl ?_
      refine T_iload_n (pc := 31) dX11_put_31 rfl rfl ?_
      refine T_aload (pc := 32) dX11_put_32 rfl ?_
      refine T_gI (pc := 34) fa_X11_93 dX11_put_34 (gI_mono (fun x4 H => ?_) H)
      refine T_invS (pc := 37) (av := [jR x2, jI v2, jI v3, jI x4]) (rest := []) dX11_put_37 mf_X11_numberFault c_2_8 c_2_9 rfl (Nat.le_of_ble_eq_true rfl) rfl (iI_k (iI_mono (fun x5 h u H => ?_) H))
      refine T_istore (pc := 40) (ls2 := [some (jR v0), some (jI v1), some (jI v2), some (jI v3), some (jL v4), none, some (jR x2), some (jI x5)]) dX11_put_40 (Nat.le_of_ble_eq_true rfl) rfl ?_
      refine T_iload (pc := 42) dX11_put_42 rfl ?_
      refine T_if_eq (pc := 44) (tgt := 54) dX11_put_44 (by decide) (fun hc => ?_) (fun hc => ?_)
      · rw [if_pos hc] at H
        refine T_aload (pc := 54) dX11_put_54 rfl ?_
        refine T_gR (pc := 56) fa_X11_100 dX11_put_56 (gR_mono (fun x6 H => ?_) H)
        refine T_iload_n (pc := 59) dX11_put_59 rfl rfl ?_
        refine T_iload_n (pc := 60) dX11_put_60 rfl rfl ?_
        refine T_aload (pc := 61) dX11_put_61 rfl ?_
        refine T_gI (pc := 63) fa_X11_93 dX11_put_63 (gI_mono (fun x7 H => ?_) H)
        refine T_iload_n (pc := 66) dX11_put_66 rfl rfl ?_
        refine T_lload (pc := 67) dX11_put_67 rfl ?_
        refine T_invS (pc := 69) (av := [jI v3, jL v4]) (rest := [jI x7, jI v3, jI v2, jR x6]) dX11_put_69 mf_X4_come c_2_18 c_2_19 rfl (Nat.le_of_ble_eq_true rfl) rfl (iL_k (iL_mono (fun x8 h u H => ?_) H))
        refine T_invS (pc := 72) (av := [jI v3, jI x7, jL x8]) (rest := [jI v2, jR x6]) dX11_put_72 mf_X4_widen c_2_39 c_2_40 rfl (Nat.le_of_ble_eq_true rfl) rfl (iL_k (iL_mono (fun x9 h u H => ?_) H))
        refine T_sL (pc := 75) dX11_put_75 (sV_mono (fun h H => ?_) H)
        refine T_iconst (pc := 76) (v := 1) dX11_put_76 (by decide) ?_
        exact T_ireturn (pc := 77) rfl rfl dX11_put_77 H
      · rw [if_neg hc] at H
        refine T_aload_n (pc := 47) dX11_put_47 rfl rfl ?_
        refine T_iload (pc := 48) dX11_put_48 rfl ?_
        obtain ⟨H0, H⟩ := H
        refine T_iV (pc := 50) (ci := 10) (av := [jI x5]) (rest := []) (o := v0) dX11_put_50 mf_X11_failed c_1_196 c_1_198 pr_X11_failed rfl rfl (Nat.le_of_ble_eq_true rfl) rfl H0 (iI_k (iI_mono (fun x10 h u H => ?_) H))
        exact T_ireturn (pc := 53) rfl rfl dX11_put_53 H
    · rw [if_pos hc] at H
      refine T_bipush (pc := 25) (v := (-2)) dX11_put_25 (by decide) ?_
      exact T_ireturn (pc := 27) rfl rfl dX11_put_27 H
theorem I_X11_put {d : Nat} {v0 : Option Nm} {v1 : Int32} {v2 : Int32} {v3 : Int32} {v4 : Int64} {h : MH} {u : Nat} {K : Int32 → MH → Nat → Prop} (u1 : Nat) (hu : u1 ≤ u) (H : F_X11_put d v0 v1 v2 v3 v4 h u1 (fun x h2 => K x h2 (u - u1))) : iI (d + 1) u_X11_put [jR v0, jI v1, jI v2, jI v3, jL v4] h u K := inv.of u1 hu (Ct.of (by decide +kernel) rfl (Nat.le_of_ble_eq_true rfl) rfl (E_X11_put H))
theorem dX11_get_0 : decode cX11_get 0 = .ok (.aload_n 0, 1) := by decide +kernel
theorem dX11_get_1 : decode cX11_get 1 = .ok (.getfield 12, 3) := by decide +kernel
theorem dX11_get_4 : decode cX11_get 4 = .ok (.iload_n 1, 1) := by decide +kernel
theorem dX11_get_5 : decode cX11_get 5 = .ok (.i2l, 1) := by decide +kernel
theorem dX11_get_6 : decode cX11_get 6 = .ok (.invokevirtual 86, 3) := by decide +kernel
theorem dX11_get_9 : decode cX11_get 9 = .ok (.astore 4, 2) := by decide +kernel
theorem dX11_get_11 : decode cX11_get 11 = .ok (.aload 4, 2) := by decide +kernel
theorem dX11_get_13 : decode cX11_get 13 = .ok (.ifnull 10, 3) := by decide +kernel
theorem dX11_get_16 : decode cX11_get 16 = .ok (.iload_n 3, 1) := by decide +kernel
theorem dX11_get_17 : decode cX11_get 17 = .ok (.invokestatic 90, 3) := by decide +kernel
theorem dX11_get_20 : decode cX11_get 20 = .ok (.ifCond .ne 7, 3) := by decide +kernel
theorem dX11_get_23 : decode cX11_get 23 = .ok (.ldc2_w 112, 3) := by decide +kernel
theorem dX11_get_26 : decode cX11_get 26 = .ok (.lreturn, 1) := by decide +kernel
theorem dX11_get_27 : decode cX11_get 27 = .ok (.aload 4, 2) := by decide +kernel
theorem dX11_get_29 : decode cX11_get 29 = .ok (.iload_n 2, 1) := by decide +kernel
theorem dX11_get_30 : decode cX11_get 30 = .ok (.aload 4, 2) := by decide +kernel
theorem dX11_get_32 : decode cX11_get 32 = .ok (.getfield 93, 3) := by decide +kernel
theorem dX11_get_35 : decode cX11_get 35 = .ok (.iload_n 3, 1) := by decide +kernel
theorem dX11_get_36 : decode cX11_get 36 = .ok (.invokestatic 96, 3) := by decide +kernel
theorem dX11_get_39 : decode cX11_get 39 = .ok (.istore 5, 2) := by decide +kernel
theorem dX11_get_41 : decode cX11_get 41 = .ok (.iload 5, 2) := by decide +kernel
theorem dX11_get_43 : decode cX11_get 43 = .ok (.ifCond .eq 10, 3) := by decide +kernel
theorem dX11_get_46 : decode cX11_get 46 = .ok (.aload_n 0, 1) := by decide +kernel
theorem dX11_get_47 : decode cX11_get 47 = .ok (.iload 5, 2) := by decide +kernel
theorem dX11_get_49 : decode cX11_get 49 = .ok (.invokevirtual 114, 3) := by decide +kernel
theorem dX11_get_52 : decode cX11_get 52 = .ok (.lreturn, 1) := by decide +kernel
theorem dX11_get_53 : decode cX11_get 53 = .ok (.aload 4, 2) := by decide +kernel
theorem dX11_get_55 : decode cX11_get 55 = .ok (.getfield 93, 3) := by decide +kernel
theorem dX11_get_58 : decode cX11_get 58 = .ok (.iload_n 3, 1) := by decide +kernel
theorem dX11_get_59 : decode cX11_get 59 = .ok (.aload 4, 2) := by decide +kernel
theorem dX11_get_61 : decode cX11_get 61 = .ok (.getfield 100, 3) := by decide +kernel
theorem dX11_get_64 : decode cX11_get 64 = .ok (.iload_n 2, 1) := by decide +kernel
theorem dX11_get_65 : decode cX11_get 65 = .ok (.laload, 1) := by decide +kernel
theorem dX11_get_66 : decode cX11_get 66 = .ok (.invokestatic 108, 3) := by decide +kernel
theorem dX11_get_69 : decode cX11_get 69 = .ok (.lreturn, 1) := by decide +kernel
def F_X11_get (d : Nat) (v0 : Option Nm) (v1 : Int32) (v2 : Int32) (v3 : Int32) (h : MH) (u : Nat) (Q : Int64 → MH → Prop) : Prop :=
  gR h v0 10 0 fun x1 =>
  rc h x1 6 ∧ iR d u_X7_findRow [jR x1, jL (v1.toInt64)] h u fun x2 h u =>
  nl x2 (
    Q (-9223372036854775808) h) (
    iI d u_X4_isNumber [jI v3] h u fun x3 h u =>
    if x3 = 0 then
      Q (-9223372036854775808) h
    else
      gI h x2 4 1 fun x4 =>
      iI d u_X11_numberFault [jR x2, jI v2, jI x4, jI v3] h u fun x5 h u =>
      if x5 = 0 then
        gI h x2 4 1 fun x6 =>
        gR h x2 4 2 fun x7 =>
        aL h x7 v2 fun x8 =>
        iL d u_X4_widen [jI x6, jI v3, jL x8] h u fun x9 h u =>
        Q x9 h
      else
        rc h v0 10 ∧ iL d u_X11_lost [jR v0, jI x5] h u fun x10 h u =>
        Q x10 h)
set_option maxRecDepth 20000 in
theorem E_X11_get {d : Nat} {v0 : Option Nm} {v1 : Int32} {v2 : Int32} {v3 : Int32} {h : MH} {u : Nat} {Q : Int64 → MH → Prop} (H : F_X11_get d v0 v1 v2 v3 h u Q) : T u_X11_get (d + 1) 0 [some (jR v0), some (jI v1), some (jI v2), some (jI v3), none, none] [] h u (qL Q) := by
  unfold F_X11_get at H
  refine T_aload_n (pc := 0) dX11_get_0 rfl rfl ?_
  refine T_gR (pc := 1) fa_X11_12 dX11_get_1 (gR_mono (fun x1 H => ?_) H)
  refine T_iload_n (pc := 4) dX11_get_4 rfl rfl ?_
  refine T_i2l (pc := 5) dX11_get_5 ?_
  obtain ⟨H0, H⟩ := H
  refine T_iV (pc := 6) (ci := 6) (av := [jL (v1.toInt64)]) (rest := []) (o := x1) dX11_get_6 mf_X7_findRow c_2_1 c_2_2 c_2_3 rfl rfl (Nat.le_of_ble_eq_true rfl) rfl H0 (iR_k (iR_mono (fun x2 h u H => ?_) H))
  refine T_astore (pc := 9) (ls2 := [some (jR v0), some (jI v1), some (jI v2), some (jI v3), some (jR x2), none]) dX11_get_9 (Nat.le_of_ble_eq_true rfl) rfl ?_
  refine T_aload (pc := 11) dX11_get_11 rfl ?_
  refine T_ifnull (pc := 13) (tgt := 23) dX11_get_13 (by decide) (fun ho => ?_) (fun n ho => ?_)
  · replace H := nl_n ho H
    refine T_ldc2 (pc := 23) (v := (-9223372036854775808)) dX11_get_23 c_2_54 ?_
    exact T_lreturn (pc := 26) rfl dX11_get_26 H
  · replace H := nl_s ho H
    refine T_iload_n (pc := 16) dX11_get_16 rfl rfl ?_
    refine T_invS (pc := 17) (av := [jI v3]) (rest := []) dX11_get_17 mf_X4_isNumber c_2_5 c_2_6 rfl (Nat.le_of_ble_eq_true rfl) rfl (iI_k (iI_mono (fun x3 h u H => ?_) H))
    refine T_if_ne (pc := 20) (tgt := 27) dX11_get_20 (by decide) (fun hc => ?_) (fun hc => ?_)
    · rw [if_neg hc] at H
      refine T_aload (pc := 27) dX11_get_27 rfl ?_
      refine T_iload_n (pc := 29) dX11_get_29 rfl rfl ?_
      refine T_aload (pc := 30) dX11_get_30 rfl ?_
      refine T_gI (pc := 32) fa_X11_93 dX11_get_32 (gI_mono (fun x4 H => ?_) H)
      refine T_iload_n (pc := 35) dX11_get_35 rfl rfl ?_
      refine T_invS (pc := 36) (av := [jR x2, jI v2, jI x4, jI v3]) (rest := []) dX11_get_36 mf_X11_numberFault c_2_8 c_2_9 rfl (Nat.le_of_ble_eq_true rfl) rfl (iI_k (iI_mono (fun x5 h u H => ?_) H))
      refine T_istore (pc := 39) (ls2 := [some (jR v0), some (jI v1), some (jI v2), some (jI v3), some (jR x2), some (jI x5)]) dX11_get_39 (Nat.le_of_ble_eq_true rfl) rfl ?_
      refine T_iload (pc := 41) dX11_get_41 rfl ?_
      refine T_if_eq (pc := 43) (tgt := 53) dX11_get_43 (by decide) (fun hc => ?_) (fun hc => ?_)
      · rw [if_pos hc] at H
        refine T_aload (pc := 53) dX11_get_53 rfl ?_
        refine T_gI (pc := 55) fa_X11_93 dX11_get_55 (gI_mono (fun x6 H => ?_) H)
        refine T_iload_n (pc := 58) dX11_get_58 rfl rfl ?_
        refine T_aload (pc := 59) dX11_get_59 rfl ?_
        refine T_gR (pc := 61) fa_X11_100 dX11_get_61 (gR_mono (fun x7 H => ?_) H)
        refine T_iload_n (pc := 64) dX11_get_64 rfl rfl ?_
        refine T_aL (pc := 65) dX11_get_65 (aL_mono (fun x8 H => ?_) H)
        refine T_invS (pc := 66) (av := [jI x6, jI v3, jL x8]) (rest := []) dX11_get_66 mf_X4_widen c_2_39 c_2_40 rfl (Nat.le_of_ble_eq_true rfl) rfl (iL_k (iL_mono (fun x9 h u H => ?_) H))
        exact T_lreturn (pc := 69) rfl dX11_get_69 H
      · rw [if_neg hc] at H
        refine T_aload_n (pc := 46) dX11_get_46 rfl rfl ?_
        refine T_iload (pc := 47) dX11_get_47 rfl ?_
        obtain ⟨H0, H⟩ := H
        refine T_iV (pc := 49) (ci := 10) (av := [jI x5]) (rest := []) (o := v0) dX11_get_49 mf_X11_lost c_2_55 c_2_57 pr_X11_lost rfl rfl (Nat.le_of_ble_eq_true rfl) rfl H0 (iL_k (iL_mono (fun x10 h u H => ?_) H))
        exact T_lreturn (pc := 52) rfl dX11_get_52 H
    · rw [if_pos hc] at H
      refine T_ldc2 (pc := 23) (v := (-9223372036854775808)) dX11_get_23 c_2_54 ?_
      exact T_lreturn (pc := 26) rfl dX11_get_26 H
theorem I_X11_get {d : Nat} {v0 : Option Nm} {v1 : Int32} {v2 : Int32} {v3 : Int32} {h : MH} {u : Nat} {K : Int64 → MH → Nat → Prop} (u1 : Nat) (hu : u1 ≤ u) (H : F_X11_get d v0 v1 v2 v3 h u1 (fun x h2 => K x h2 (u - u1))) : iL (d + 1) u_X11_get [jR v0, jI v1, jI v2, jI v3] h u K := inv.of u1 hu (Ct.of (by decide +kernel) rfl (Nat.le_of_ble_eq_true rfl) rfl (E_X11_get H))
theorem dX11_lay_0 : decode cX11_lay 0 = .ok (.aload_n 0, 1) := by decide +kernel
theorem dX11_lay_1 : decode cX11_lay 1 = .ok (.getfield 12, 3) := by decide +kernel
theorem dX11_lay_4 : decode cX11_lay 4 = .ok (.iload_n 1, 1) := by decide +kernel
theorem dX11_lay_5 : decode cX11_lay 5 = .ok (.i2l, 1) := by decide +kernel
theorem dX11_lay_6 : decode cX11_lay 6 = .ok (.invokevirtual 86, 3) := by decide +kernel
theorem dX11_lay_9 : decode cX11_lay 9 = .ok (.astore 4, 2) := by decide +kernel
theorem dX11_lay_11 : decode cX11_lay 11 = .ok (.aload 4, 2) := by decide +kernel
theorem dX11_lay_13 : decode cX11_lay 13 = .ok (.ifnull 20, 3) := by decide +kernel
theorem dX11_lay_16 : decode cX11_lay 16 = .ok (.iload_n 3, 1) := by decide +kernel
theorem dX11_lay_17 : decode cX11_lay 17 = .ok (.iconst (-1), 1) := by decide +kernel
theorem dX11_lay_18 : decode cX11_lay 18 = .ok (.if_icmp .eq 17, 3) := by decide +kernel
theorem dX11_lay_21 : decode cX11_lay 21 = .ok (.aload_n 0, 1) := by decide +kernel
theorem dX11_lay_22 : decode cX11_lay 22 = .ok (.getfield 12, 3) := by decide +kernel
theorem dX11_lay_25 : decode cX11_lay 25 = .ok (.iload_n 3, 1) := by decide +kernel
theorem dX11_lay_26 : decode cX11_lay 26 = .ok (.i2l, 1) := by decide +kernel
theorem dX11_lay_27 : decode cX11_lay 27 = .ok (.invokevirtual 118, 3) := by decide +kernel
theorem dX11_lay_30 : decode cX11_lay 30 = .ok (.ifnonnull 5, 3) := by decide +kernel
theorem dX11_lay_33 : decode cX11_lay 33 = .ok (.iconst (-1), 1) := by decide +kernel
theorem dX11_lay_34 : decode cX11_lay 34 = .ok (.ireturn, 1) := by decide +kernel
theorem dX11_lay_35 : decode cX11_lay 35 = .ok (.aload 4, 2) := by decide +kernel
theorem dX11_lay_37 : decode cX11_lay 37 = .ok (.getfield 122, 3) := by decide +kernel
theorem dX11_lay_40 : decode cX11_lay 40 = .ok (.ifCond .eq 6, 3) := by decide +kernel
theorem dX11_lay_43 : decode cX11_lay 43 = .ok (.bipush (-3), 2) := by decide +kernel
theorem dX11_lay_45 : decode cX11_lay 45 = .ok (.ireturn, 1) := by decide +kernel
theorem dX11_lay_46 : decode cX11_lay 46 = .ok (.aload 4, 2) := by decide +kernel
theorem dX11_lay_48 : decode cX11_lay 48 = .ok (.iload_n 2, 1) := by decide +kernel
theorem dX11_lay_49 : decode cX11_lay 49 = .ok (.invokestatic 126, 3) := by decide +kernel
theorem dX11_lay_52 : decode cX11_lay 52 = .ok (.istore 5, 2) := by decide +kernel
theorem dX11_lay_54 : decode cX11_lay 54 = .ok (.iload 5, 2) := by decide +kernel
theorem dX11_lay_56 : decode cX11_lay 56 = .ok (.ifCond .eq 10, 3) := by decide +kernel
theorem dX11_lay_59 : decode cX11_lay 59 = .ok (.aload_n 0, 1) := by decide +kernel
theorem dX11_lay_60 : decode cX11_lay 60 = .ok (.iload 5, 2) := by decide +kernel
theorem dX11_lay_62 : decode cX11_lay 62 = .ok (.invokevirtual 72, 3) := by decide +kernel
theorem dX11_lay_65 : decode cX11_lay 65 = .ok (.ireturn, 1) := by decide +kernel
theorem dX11_lay_66 : decode cX11_lay 66 = .ok (.aload 4, 2) := by decide +kernel
theorem dX11_lay_68 : decode cX11_lay 68 = .ok (.getfield 100, 3) := by decide +kernel
theorem dX11_lay_71 : decode cX11_lay 71 = .ok (.iload_n 2, 1) := by decide +kernel
theorem dX11_lay_72 : decode cX11_lay 72 = .ok (.iload_n 3, 1) := by decide +kernel
theorem dX11_lay_73 : decode cX11_lay 73 = .ok (.i2l, 1) := by decide +kernel
theorem dX11_lay_74 : decode cX11_lay 74 = .ok (.lastore, 1) := by decide +kernel
theorem dX11_lay_75 : decode cX11_lay 75 = .ok (.iconst 1, 1) := by decide +kernel
theorem dX11_lay_76 : decode cX11_lay 76 = .ok (.ireturn, 1) := by decide +kernel
def F_X11_lay_35 (d : Nat) (v0 : Option Nm) (v2 : Int32) (v3 : Int32) (v4 : Option Nm) (h : MH) (u : Nat) (Q : Int32 → MH → Prop) : Prop :=
  gI h v4 4 3 fun x1 =>
  if x1 = 0 then
    iI d u_X11_thingFault [jR v4, jI v2] h u fun x2 h u =>
    if x2 = 0 then
      gR h v4 4 2 fun x3 =>
      sV .long h x3 v2 (jL (v3.toInt64)) fun h =>
      Q 1 h
    else
      rc h v0 10 ∧ iI d u_X11_failed [jR v0, jI x2] h u fun x4 h u =>
      Q x4 h
  else
    Q (-3) h
set_option maxRecDepth 20000 in
theorem E_X11_lay_35 {d : Nat} {v0 : Option Nm} {v2 : Int32} {v3 : Int32} {v4 : Option Nm} {h : MH} {u : Nat} {Q : Int32 → MH → Prop} (H : F_X11_lay_35 d v0 v2 v3 v4 h u Q) : T u_X11_lay (d + 1) 35 [some (jR v0), none, some (jI v2), some (jI v3), some (jR v4), none] [] h u (qI Q) := by
  unfold F_X11_lay_35 at H
  refine T_aload (pc := 35) dX11_lay_35 rfl ?_
  refine T_gI (pc := 37) fa_X11_122 dX11_lay_37 (gI_mono (fun x1 H => ?_) H)
  refine T_if_eq (pc := 40) (tgt := 46) dX11_lay_40 (by decide) (fun hc => ?_) (fun hc => ?_)
  · rw [if_pos hc] at H
    refine T_aload (pc := 46) dX11_lay_46 rfl ?_
    refine T_iload_n (pc := 48) dX11_lay_48 rfl rfl ?_
    refine T_invS (pc := 49) (av := [jR v4, jI v2]) (rest := []) dX11_lay_49 mf_X11_thingFault c_2_67 c_2_68 rfl (Nat.le_of_ble_eq_true rfl) rfl (iI_k (iI_mono (fun x2 h u H => ?_) H))
    refine T_istore (pc := 52) (ls2 := [some (jR v0), none, some (jI v2), some (jI v3), some (jR v4), some (jI x2)]) dX11_lay_52 (Nat.le_of_ble_eq_true rfl) rfl ?_
    refine T_iload (pc := 54) dX11_lay_54 rfl ?_
    refine T_if_eq (pc := 56) (tgt := 66) dX11_lay_56 (by decide) (fun hc => ?_) (fun hc => ?_)
    · rw [if_pos hc] at H
      refine T_aload (pc := 66) dX11_lay_66 rfl ?_
      refine T_gR (pc := 68) fa_X11_100 dX11_lay_68 (gR_mono (fun x3 H => ?_) H)
      refine T_iload_n (pc := 71) dX11_lay_71 rfl rfl ?_
      refine T_iload_n (pc := 72) dX11_lay_72 rfl rfl ?_
      refine T_i2l (pc := 73) dX11_lay_73 ?_
      refine T_sL (pc := 74) dX11_lay_74 (sV_mono (fun h H => ?_) H)
      refine T_iconst (pc := 75) (v := 1) dX11_lay_75 (by decide) ?_
      exact T_ireturn (pc := 76) rfl rfl dX11_lay_76 H
    · rw [if_neg hc] at H
      refine T_aload_n (pc := 59) dX11_lay_59 rfl rfl ?_
      refine T_iload (pc := 60) dX11_lay_60 rfl ?_
      obtain ⟨H0, H⟩ := H
      refine T_iV (pc := 62) (ci := 10) (av := [jI x2]) (rest := []) (o := v0) dX11_lay_62 mf_X11_failed c_1_196 c_1_198 pr_X11_failed rfl rfl (Nat.le_of_ble_eq_true rfl) rfl H0 (iI_k (iI_mono (fun x4 h u H => ?_) H))
      exact T_ireturn (pc := 65) rfl rfl dX11_lay_65 H
  · rw [if_neg hc] at H
    refine T_bipush (pc := 43) (v := (-3)) dX11_lay_43 (by decide) ?_
    exact T_ireturn (pc := 45) rfl rfl dX11_lay_45 H
def F_X11_lay (d : Nat) (v0 : Option Nm) (v1 : Int32) (v2 : Int32) (v3 : Int32) (h : MH) (u : Nat) (Q : Int32 → MH → Prop) : Prop :=
  gR h v0 10 0 fun x1 =>
  rc h x1 6 ∧ iR d u_X7_findRow [jR x1, jL (v1.toInt64)] h u fun x2 h u =>
  nl x2 (
    Q (-1) h) (
    if v3 = (-1) then
      F_X11_lay_35 d v0 v2 v3 x2 h u Q
    else
      gR h v0 10 0 fun x3 =>
      rc h x3 6 ∧ iR d u_X7_findValue [jR x3, jL (v3.toInt64)] h u fun x4 h u =>
      nl x4 (
        Q (-1) h) (
        F_X11_lay_35 d v0 v2 v3 x2 h u Q))
set_option maxRecDepth 20000 in
theorem E_X11_lay {d : Nat} {v0 : Option Nm} {v1 : Int32} {v2 : Int32} {v3 : Int32} {h : MH} {u : Nat} {Q : Int32 → MH → Prop} (H : F_X11_lay d v0 v1 v2 v3 h u Q) : T u_X11_lay (d + 1) 0 [some (jR v0), some (jI v1), some (jI v2), some (jI v3), none, none] [] h u (qI Q) := by
  unfold F_X11_lay at H
  refine T_aload_n (pc := 0) dX11_lay_0 rfl rfl ?_
  refine T_gR (pc := 1) fa_X11_12 dX11_lay_1 (gR_mono (fun x1 H => ?_) H)
  refine T_iload_n (pc := 4) dX11_lay_4 rfl rfl ?_
  refine T_i2l (pc := 5) dX11_lay_5 ?_
  obtain ⟨H0, H⟩ := H
  refine T_iV (pc := 6) (ci := 6) (av := [jL (v1.toInt64)]) (rest := []) (o := x1) dX11_lay_6 mf_X7_findRow c_2_1 c_2_2 c_2_3 rfl rfl (Nat.le_of_ble_eq_true rfl) rfl H0 (iR_k (iR_mono (fun x2 h u H => ?_) H))
  refine T_astore (pc := 9) (ls2 := [some (jR v0), some (jI v1), some (jI v2), some (jI v3), some (jR x2), none]) dX11_lay_9 (Nat.le_of_ble_eq_true rfl) rfl ?_
  refine T_aload (pc := 11) dX11_lay_11 rfl ?_
  refine T_ifnull (pc := 13) (tgt := 33) dX11_lay_13 (by decide) (fun ho => ?_) (fun n ho => ?_)
  · replace H := nl_n ho H
    refine T_iconst (pc := 33) (v := (-1)) dX11_lay_33 (by decide) ?_
    exact T_ireturn (pc := 34) rfl rfl dX11_lay_34 H
  · replace H := nl_s ho H
    refine T_iload_n (pc := 16) dX11_lay_16 rfl rfl ?_
    refine T_iconst (pc := 17) (v := (-1)) dX11_lay_17 (by decide) ?_
    refine T_icmp_eq (pc := 18) (tgt := 35) dX11_lay_18 (by decide) (fun hc => ?_) (fun hc => ?_)
    · rw [if_pos hc] at H
      exact T.forget (E_X11_lay_35 H) ⟨rfl, rfl, rfl, rfl, trivial⟩
    · rw [if_neg hc] at H
      refine T_aload_n (pc := 21) dX11_lay_21 rfl rfl ?_
      refine T_gR (pc := 22) fa_X11_12 dX11_lay_22 (gR_mono (fun x3 H => ?_) H)
      refine T_iload_n (pc := 25) dX11_lay_25 rfl rfl ?_
      refine T_i2l (pc := 26) dX11_lay_26 ?_
      obtain ⟨H0, H⟩ := H
      refine T_iV (pc := 27) (ci := 6) (av := [jL (v3.toInt64)]) (rest := []) (o := x3) dX11_lay_27 mf_X7_findValue c_2_63 c_2_64 c_2_65 rfl rfl (Nat.le_of_ble_eq_true rfl) rfl H0 (iR_k (iR_mono (fun x4 h u H => ?_) H))
      refine T_ifnonnull (pc := 30) (tgt := 35) dX11_lay_30 (by decide) (fun ho => ?_) (fun n ho => ?_)
      · replace H := nl_n ho H
        refine T_iconst (pc := 33) (v := (-1)) dX11_lay_33 (by decide) ?_
        exact T_ireturn (pc := 34) rfl rfl dX11_lay_34 H
      · replace H := nl_s ho H
        exact T.forget (E_X11_lay_35 H) ⟨rfl, rfl, rfl, rfl, trivial⟩
theorem I_X11_lay {d : Nat} {v0 : Option Nm} {v1 : Int32} {v2 : Int32} {v3 : Int32} {h : MH} {u : Nat} {K : Int32 → MH → Nat → Prop} (u1 : Nat) (hu : u1 ≤ u) (H : F_X11_lay d v0 v1 v2 v3 h u1 (fun x h2 => K x h2 (u - u1))) : iI (d + 1) u_X11_lay [jR v0, jI v1, jI v2, jI v3] h u K := inv.of u1 hu (Ct.of (by decide +kernel) rfl (Nat.le_of_ble_eq_true rfl) rfl (E_X11_lay H))
theorem dX11_at_0 : decode cX11_at 0 = .ok (.aload_n 0, 1) := by decide +kernel
theorem dX11_at_1 : decode cX11_at 1 = .ok (.getfield 12, 3) := by decide +kernel
theorem dX11_at_4 : decode cX11_at 4 = .ok (.iload_n 1, 1) := by decide +kernel
theorem dX11_at_5 : decode cX11_at 5 = .ok (.i2l, 1) := by decide +kernel
theorem dX11_at_6 : decode cX11_at 6 = .ok (.invokevirtual 86, 3) := by decide +kernel
theorem dX11_at_9 : decode cX11_at 9 = .ok (.astore_n 3, 1) := by decide +kernel
theorem dX11_at_10 : decode cX11_at 10 = .ok (.aload_n 3, 1) := by decide +kernel
theorem dX11_at_11 : decode cX11_at 11 = .ok (.ifnonnull 5, 3) := by decide +kernel
theorem dX11_at_14 : decode cX11_at 14 = .ok (.iconst (-1), 1) := by decide +kernel
theorem dX11_at_15 : decode cX11_at 15 = .ok (.ireturn, 1) := by decide +kernel
theorem dX11_at_16 : decode cX11_at 16 = .ok (.aload_n 3, 1) := by decide +kernel
theorem dX11_at_17 : decode cX11_at 17 = .ok (.iload_n 2, 1) := by decide +kernel
theorem dX11_at_18 : decode cX11_at 18 = .ok (.invokestatic 126, 3) := by decide +kernel
theorem dX11_at_21 : decode cX11_at 21 = .ok (.istore 4, 2) := by decide +kernel
theorem dX11_at_23 : decode cX11_at 23 = .ok (.iload 4, 2) := by decide +kernel
theorem dX11_at_25 : decode cX11_at 25 = .ok (.ifCond .eq 10, 3) := by decide +kernel
theorem dX11_at_28 : decode cX11_at 28 = .ok (.aload_n 0, 1) := by decide +kernel
theorem dX11_at_29 : decode cX11_at 29 = .ok (.iload 4, 2) := by decide +kernel
theorem dX11_at_31 : decode cX11_at 31 = .ok (.invokevirtual 72, 3) := by decide +kernel
theorem dX11_at_34 : decode cX11_at 34 = .ok (.ireturn, 1) := by decide +kernel
theorem dX11_at_35 : decode cX11_at 35 = .ok (.aload_n 3, 1) := by decide +kernel
theorem dX11_at_36 : decode cX11_at 36 = .ok (.getfield 93, 3) := by decide +kernel
theorem dX11_at_39 : decode cX11_at 39 = .ok (.aload_n 3, 1) := by decide +kernel
theorem dX11_at_40 : decode cX11_at 40 = .ok (.getfield 100, 3) := by decide +kernel
theorem dX11_at_43 : decode cX11_at 43 = .ok (.iload_n 2, 1) := by decide +kernel
theorem dX11_at_44 : decode cX11_at 44 = .ok (.laload, 1) := by decide +kernel
theorem dX11_at_45 : decode cX11_at 45 = .ok (.invokestatic 130, 3) := by decide +kernel
theorem dX11_at_48 : decode cX11_at 48 = .ok (.l2i, 1) := by decide +kernel
theorem dX11_at_49 : decode cX11_at 49 = .ok (.ireturn, 1) := by decide +kernel
def F_X11_at (d : Nat) (v0 : Option Nm) (v1 : Int32) (v2 : Int32) (h : MH) (u : Nat) (Q : Int32 → MH → Prop) : Prop :=
  gR h v0 10 0 fun x1 =>
  rc h x1 6 ∧ iR d u_X7_findRow [jR x1, jL (v1.toInt64)] h u fun x2 h u =>
  nl x2 (
    Q (-1) h) (
    iI d u_X11_thingFault [jR x2, jI v2] h u fun x3 h u =>
    if x3 = 0 then
      gI h x2 4 1 fun x4 =>
      gR h x2 4 2 fun x5 =>
      aL h x5 v2 fun x6 =>
      iL d u_X4_tell [jI x4, jL x6] h u fun x7 h u =>
      Q (x7.toInt32) h
    else
      rc h v0 10 ∧ iI d u_X11_failed [jR v0, jI x3] h u fun x8 h u =>
      Q x8 h)
set_option maxRecDepth 20000 in
theorem E_X11_at {d : Nat} {v0 : Option Nm} {v1 : Int32} {v2 : Int32} {h : MH} {u : Nat} {Q : Int32 → MH → Prop} (H : F_X11_at d v0 v1 v2 h u Q) : T u_X11_at (d + 1) 0 [some (jR v0), some (jI v1), some (jI v2), none, none] [] h u (qI Q) := by
  unfold F_X11_at at H
  refine T_aload_n (pc := 0) dX11_at_0 rfl rfl ?_
  refine T_gR (pc := 1) fa_X11_12 dX11_at_1 (gR_mono (fun x1 H => ?_) H)
  refine T_iload_n (pc := 4) dX11_at_4 rfl rfl ?_
  refine T_i2l (pc := 5) dX11_at_5 ?_
  obtain ⟨H0, H⟩ := H
  refine T_iV (pc := 6) (ci := 6) (av := [jL (v1.toInt64)]) (rest := []) (o := x1) dX11_at_6 mf_X7_findRow c_2_1 c_2_2 c_2_3 rfl rfl (Nat.le_of_ble_eq_true rfl) rfl H0 (iR_k (iR_mono (fun x2 h u H => ?_) H))
  refine T_astore_n (pc := 9) (ls2 := [some (jR v0), some (jI v1), some (jI v2), some (jR x2), none]) dX11_at_9 rfl (Nat.le_of_ble_eq_true rfl) rfl ?_
  refine T_aload_n (pc := 10) dX11_at_10 rfl rfl ?_
  refine T_ifnonnull (pc := 11) (tgt := 16) dX11_at_11 (by decide) (fun ho => ?_) (fun n ho => ?_)
  · replace H := nl_n ho H
    refine T_iconst (pc := 14) (v := (-1)) dX11_at_14 (by decide) ?_
    exact T_ireturn (pc := 15) rfl rfl dX11_at_15 H
  · replace H := nl_s ho H
    refine T_aload_n (pc := 16) dX11_at_16 rfl rfl ?_
    refine T_iload_n (pc := 17) dX11_at_17 rfl rfl ?_
    refine T_invS (pc := 18) (av := [jR x2, jI v2]) (rest := []) dX11_at_18 mf_X11_thingFault c_2_67 c_2_68 rfl (Nat.le_of_ble_eq_true rfl) rfl (iI_k (iI_mono (fun x3 h u H => ?_) H))
    refine T_istore (pc := 21) (ls2 := [some (jR v0), some (jI v1), some (jI v2), some (jR x2), some (jI x3)]) dX11_at_21 (Nat.le_of_ble_eq_true rfl) rfl ?_
    refine T_iload (pc := 23) dX11_at_23 rfl ?_
    refine T_if_eq (pc := 25) (tgt := 35) dX11_at_25 (by decide) (fun hc => ?_) (fun hc => ?_)
    · rw [if_pos hc] at H
      refine T_aload_n (pc := 35) dX11_at_35 rfl rfl ?_
      refine T_gI (pc := 36) fa_X11_93 dX11_at_36 (gI_mono (fun x4 H => ?_) H)
      refine T_aload_n (pc := 39) dX11_at_39 rfl rfl ?_
      refine T_gR (pc := 40) fa_X11_100 dX11_at_40 (gR_mono (fun x5 H => ?_) H)
      refine T_iload_n (pc := 43) dX11_at_43 rfl rfl ?_
      refine T_aL (pc := 44) dX11_at_44 (aL_mono (fun x6 H => ?_) H)
      refine T_invS (pc := 45) (av := [jI x4, jL x6]) (rest := []) dX11_at_45 mf_X4_tell c_2_74 c_2_75 rfl (Nat.le_of_ble_eq_true rfl) rfl (iL_k (iL_mono (fun x7 h u H => ?_) H))
      refine T_l2i (pc := 48) dX11_at_48 ?_
      exact T_ireturn (pc := 49) rfl rfl dX11_at_49 H
    · rw [if_neg hc] at H
      refine T_aload_n (pc := 28) dX11_at_28 rfl rfl ?_
      refine T_iload (pc := 29) dX11_at_29 rfl ?_
      obtain ⟨H0, H⟩ := H
      refine T_iV (pc := 31) (ci := 10) (av := [jI x3]) (rest := []) (o := v0) dX11_at_31 mf_X11_failed c_1_196 c_1_198 pr_X11_failed rfl rfl (Nat.le_of_ble_eq_true rfl) rfl H0 (iI_k (iI_mono (fun x8 h u H => ?_) H))
      exact T_ireturn (pc := 34) rfl rfl dX11_at_34 H
theorem I_X11_at {d : Nat} {v0 : Option Nm} {v1 : Int32} {v2 : Int32} {h : MH} {u : Nat} {K : Int32 → MH → Nat → Prop} (u1 : Nat) (hu : u1 ≤ u) (H : F_X11_at d v0 v1 v2 h u1 (fun x h2 => K x h2 (u - u1))) : iI (d + 1) u_X11_at [jR v0, jI v1, jI v2] h u K := inv.of u1 hu (Ct.of (by decide +kernel) rfl (Nat.le_of_ble_eq_true rfl) rfl (E_X11_at H))
theorem dX11_length_0 : decode cX11_length 0 = .ok (.aload_n 0, 1) := by decide +kernel
theorem dX11_length_1 : decode cX11_length 1 = .ok (.getfield 12, 3) := by decide +kernel
theorem dX11_length_4 : decode cX11_length 4 = .ok (.iload_n 1, 1) := by decide +kernel
theorem dX11_length_5 : decode cX11_length 5 = .ok (.i2l, 1) := by decide +kernel
theorem dX11_length_6 : decode cX11_length 6 = .ok (.invokevirtual 86, 3) := by decide +kernel
theorem dX11_length_9 : decode cX11_length 9 = .ok (.astore_n 3, 1) := by decide +kernel
theorem dX11_length_10 : decode cX11_length 10 = .ok (.aload_n 3, 1) := by decide +kernel
theorem dX11_length_11 : decode cX11_length 11 = .ok (.ifnonnull 5, 3) := by decide +kernel
theorem dX11_length_14 : decode cX11_length 14 = .ok (.iconst (-1), 1) := by decide +kernel
theorem dX11_length_15 : decode cX11_length 15 = .ok (.ireturn, 1) := by decide +kernel
theorem dX11_length_16 : decode cX11_length 16 = .ok (.iload_n 2, 1) := by decide +kernel
theorem dX11_length_17 : decode cX11_length 17 = .ok (.tableswitch 46 0 2 #[27, 32, 38], 27) := by decide +kernel
theorem dX11_length_44 : decode cX11_length 44 = .ok (.aload_n 3, 1) := by decide +kernel
theorem dX11_length_45 : decode cX11_length 45 = .ok (.getfield 93, 3) := by decide +kernel
theorem dX11_length_48 : decode cX11_length 48 = .ok (.ireturn, 1) := by decide +kernel
theorem dX11_length_49 : decode cX11_length 49 = .ok (.aload_n 3, 1) := by decide +kernel
theorem dX11_length_50 : decode cX11_length 50 = .ok (.getfield 100, 3) := by decide +kernel
theorem dX11_length_53 : decode cX11_length 53 = .ok (.arraylength, 1) := by decide +kernel
theorem dX11_length_54 : decode cX11_length 54 = .ok (.ireturn, 1) := by decide +kernel
theorem dX11_length_55 : decode cX11_length 55 = .ok (.aload_n 3, 1) := by decide +kernel
theorem dX11_length_56 : decode cX11_length 56 = .ok (.getfield 122, 3) := by decide +kernel
theorem dX11_length_59 : decode cX11_length 59 = .ok (.invokestatic 133, 3) := by decide +kernel
theorem dX11_length_62 : decode cX11_length 62 = .ok (.ireturn, 1) := by decide +kernel
theorem dX11_length_63 : decode cX11_length 63 = .ok (.bipush (-2), 2) := by decide +kernel
theorem dX11_length_65 : decode cX11_length 65 = .ok (.ireturn, 1) := by decide +kernel
def F_X11_length (d : Nat) (v0 : Option Nm) (v1 : Int32) (v2 : Int32) (h : MH) (u : Nat) (Q : Int32 → MH → Prop) : Prop :=
  gR h v0 10 0 fun x1 =>
  rc h x1 6 ∧ iR d u_X7_findRow [jR x1, jL (v1.toInt64)] h u fun x2 h u =>
  nl x2 (
    Q (-1) h) (
    if v2 = 0 then
      gI h x2 4 1 fun x3 =>
      Q x3 h
    else if v2 = 1 then
      gR h x2 4 2 fun x4 =>
      aN h x4 fun x5 =>
      Q x5 h
    else if v2 = 2 then
      gI h x2 4 3 fun x6 =>
      iI d u_X11_oneIf [jI x6] h u fun x7 h u =>
      Q x7 h
    else 
      Q (-2) h)
set_option maxRecDepth 20000 in
theorem E_X11_length {d : Nat} {v0 : Option Nm} {v1 : Int32} {v2 : Int32} {h : MH} {u : Nat} {Q : Int32 → MH → Prop} (H : F_X11_length d v0 v1 v2 h u Q) : T u_X11_length (d + 1) 0 [some (jR v0), some (jI v1), some (jI v2), none] [] h u (qI Q) := by
  unfold F_X11_length at H
  refine T_aload_n (pc := 0) dX11_length_0 rfl rfl ?_
  refine T_gR (pc := 1) fa_X11_12 dX11_length_1 (gR_mono (fun x1 H => ?_) H)
  refine T_iload_n (pc := 4) dX11_length_4 rfl rfl ?_
  refine T_i2l (pc := 5) dX11_length_5 ?_
  obtain ⟨H0, H⟩ := H
  refine T_iV (pc := 6) (ci := 6) (av := [jL (v1.toInt64)]) (rest := []) (o := x1) dX11_length_6 mf_X7_findRow c_2_1 c_2_2 c_2_3 rfl rfl (Nat.le_of_ble_eq_true rfl) rfl H0 (iR_k (iR_mono (fun x2 h u H => ?_) H))
  refine T_astore_n (pc := 9) (ls2 := [some (jR v0), some (jI v1), some (jI v2), some (jR x2)]) dX11_length_9 rfl (Nat.le_of_ble_eq_true rfl) rfl ?_
  refine T_aload_n (pc := 10) dX11_length_10 rfl rfl ?_
  refine T_ifnonnull (pc := 11) (tgt := 16) dX11_length_11 (by decide) (fun ho => ?_) (fun n ho => ?_)
  · replace H := nl_n ho H
    refine T_iconst (pc := 14) (v := (-1)) dX11_length_14 (by decide) ?_
    exact T_ireturn (pc := 15) rfl rfl dX11_length_15 H
  · replace H := nl_s ho H
    refine T_iload_n (pc := 16) dX11_length_16 rfl rfl ?_
    by_cases h0 : v2 = 0
    · rw [if_pos h0] at H
      refine T_tableIn (pc := 17) (off := 27) (tgt := 44) dX11_length_17 (by rw [h0]; decide) (by rw [h0]; decide) (by rw [h0]; rfl) (by decide) ?_
      refine T_aload_n (pc := 44) dX11_length_44 rfl rfl ?_
      refine T_gI (pc := 45) fa_X11_93 dX11_length_45 (gI_mono (fun x3 H => ?_) H)
      exact T_ireturn (pc := 48) rfl rfl dX11_length_48 H
    rw [if_neg h0] at H
    by_cases h1 : v2 = 1
    · rw [if_pos h1] at H
      refine T_tableIn (pc := 17) (off := 32) (tgt := 49) dX11_length_17 (by rw [h1]; decide) (by rw [h1]; decide) (by rw [h1]; rfl) (by decide) ?_
      refine T_aload_n (pc := 49) dX11_length_49 rfl rfl ?_
      refine T_gR (pc := 50) fa_X11_100 dX11_length_50 (gR_mono (fun x4 H => ?_) H)
      refine T_aN (pc := 53) dX11_length_53 (aN_mono (fun x5 H => ?_) H)
      exact T_ireturn (pc := 54) rfl rfl dX11_length_54 H
    rw [if_neg h1] at H
    by_cases h2 : v2 = 2
    · rw [if_pos h2] at H
      refine T_tableIn (pc := 17) (off := 38) (tgt := 55) dX11_length_17 (by rw [h2]; decide) (by rw [h2]; decide) (by rw [h2]; rfl) (by decide) ?_
      refine T_aload_n (pc := 55) dX11_length_55 rfl rfl ?_
      refine T_gI (pc := 56) fa_X11_122 dX11_length_56 (gI_mono (fun x6 H => ?_) H)
      refine T_invS (pc := 59) (av := [jI x6]) (rest := []) dX11_length_59 mf_X11_oneIf c_2_83 c_2_84 rfl (Nat.le_of_ble_eq_true rfl) rfl (iI_k (iI_mono (fun x7 h u H => ?_) H))
      exact T_ireturn (pc := 62) rfl rfl dX11_length_62 H
    rw [if_neg h2] at H
    have e0 : (v2 : Int32).toInt ≠ 0 := fun q => h0 (Int32.toInt_inj.mp (q.trans (by decide)))
    have e1 : (v2 : Int32).toInt ≠ 1 := fun q => h1 (Int32.toInt_inj.mp (q.trans (by decide)))
    have e2 : (v2 : Int32).toInt ≠ 2 := fun q => h2 (Int32.toInt_inj.mp (q.trans (by decide)))
    refine T_tableOut (pc := 17) (tgt := 63) dX11_length_17 (by omega) (by decide) ?_
    refine T_bipush (pc := 63) (v := (-2)) dX11_length_63 (by decide) ?_
    exact T_ireturn (pc := 65) rfl rfl dX11_length_65 H
theorem I_X11_length {d : Nat} {v0 : Option Nm} {v1 : Int32} {v2 : Int32} {h : MH} {u : Nat} {K : Int32 → MH → Nat → Prop} (u1 : Nat) (hu : u1 ≤ u) (H : F_X11_length d v0 v1 v2 h u1 (fun x h2 => K x h2 (u - u1))) : iI (d + 1) u_X11_length [jR v0, jI v1, jI v2] h u K := inv.of u1 hu (Ct.of (by decide +kernel) rfl (Nat.le_of_ble_eq_true rfl) rfl (E_X11_length H))
theorem dX11_copy_0 : decode cX11_copy 0 = .ok (.aload_n 0, 1) := by decide +kernel
theorem dX11_copy_1 : decode cX11_copy 1 = .ok (.getfield 12, 3) := by decide +kernel
theorem dX11_copy_4 : decode cX11_copy 4 = .ok (.iload_n 1, 1) := by decide +kernel
theorem dX11_copy_5 : decode cX11_copy 5 = .ok (.i2l, 1) := by decide +kernel
theorem dX11_copy_6 : decode cX11_copy 6 = .ok (.invokevirtual 86, 3) := by decide +kernel
theorem dX11_copy_9 : decode cX11_copy 9 = .ok (.astore 6, 2) := by decide +kernel
theorem dX11_copy_11 : decode cX11_copy 11 = .ok (.aload_n 0, 1) := by decide +kernel
theorem dX11_copy_12 : decode cX11_copy 12 = .ok (.getfield 12, 3) := by decide +kernel
theorem dX11_copy_15 : decode cX11_copy 15 = .ok (.iload_n 3, 1) := by decide +kernel
theorem dX11_copy_16 : decode cX11_copy 16 = .ok (.i2l, 1) := by decide +kernel
theorem dX11_copy_17 : decode cX11_copy 17 = .ok (.invokevirtual 86, 3) := by decide +kernel
theorem dX11_copy_20 : decode cX11_copy 20 = .ok (.astore 7, 2) := by decide +kernel
theorem dX11_copy_22 : decode cX11_copy 22 = .ok (.aload 6, 2) := by decide +kernel
theorem dX11_copy_24 : decode cX11_copy 24 = .ok (.ifnull 8, 3) := by decide +kernel
theorem dX11_copy_27 : decode cX11_copy 27 = .ok (.aload 7, 2) := by decide +kernel
theorem dX11_copy_29 : decode cX11_copy 29 = .ok (.ifnonnull 5, 3) := by decide +kernel
theorem dX11_copy_32 : decode cX11_copy 32 = .ok (.iconst (-1), 1) := by decide +kernel
theorem dX11_copy_33 : decode cX11_copy 33 = .ok (.ireturn, 1) := by decide +kernel
theorem dX11_copy_34 : decode cX11_copy 34 = .ok (.aload 6, 2) := by decide +kernel
theorem dX11_copy_36 : decode cX11_copy 36 = .ok (.getfield 93, 3) := by decide +kernel
theorem dX11_copy_39 : decode cX11_copy 39 = .ok (.aload 7, 2) := by decide +kernel
theorem dX11_copy_41 : decode cX11_copy 41 = .ok (.getfield 93, 3) := by decide +kernel
theorem dX11_copy_44 : decode cX11_copy 44 = .ok (.if_icmp .ne 11, 3) := by decide +kernel
theorem dX11_copy_47 : decode cX11_copy 47 = .ok (.aload 7, 2) := by decide +kernel
theorem dX11_copy_49 : decode cX11_copy 49 = .ok (.getfield 122, 3) := by decide +kernel
theorem dX11_copy_52 : decode cX11_copy 52 = .ok (.ifCond .eq 6, 3) := by decide +kernel
theorem dX11_copy_55 : decode cX11_copy 55 = .ok (.bipush (-3), 2) := by decide +kernel
theorem dX11_copy_57 : decode cX11_copy 57 = .ok (.ireturn, 1) := by decide +kernel
theorem dX11_copy_58 : decode cX11_copy 58 = .ok (.aload 6, 2) := by decide +kernel
theorem dX11_copy_60 : decode cX11_copy 60 = .ok (.iload_n 2, 1) := by decide +kernel
theorem dX11_copy_61 : decode cX11_copy 61 = .ok (.iload 5, 2) := by decide +kernel
theorem dX11_copy_63 : decode cX11_copy 63 = .ok (.invokevirtual 137, 3) := by decide +kernel
theorem dX11_copy_66 : decode cX11_copy 66 = .ok (.ifCond .eq 15, 3) := by decide +kernel
theorem dX11_copy_69 : decode cX11_copy 69 = .ok (.aload 7, 2) := by decide +kernel
theorem dX11_copy_71 : decode cX11_copy 71 = .ok (.iload 4, 2) := by decide +kernel
theorem dX11_copy_73 : decode cX11_copy 73 = .ok (.iload 5, 2) := by decide +kernel
theorem dX11_copy_75 : decode cX11_copy 75 = .ok (.invokevirtual 137, 3) := by decide +kernel
theorem dX11_copy_78 : decode cX11_copy 78 = .ok (.ifCond .ne 9, 3) := by decide +kernel
theorem dX11_copy_81 : decode cX11_copy 81 = .ok (.aload_n 0, 1) := by decide +kernel
theorem dX11_copy_82 : decode cX11_copy 82 = .ok (.iconst 2, 1) := by decide +kernel
theorem dX11_copy_83 : decode cX11_copy 83 = .ok (.invokevirtual 72, 3) := by decide +kernel
theorem dX11_copy_86 : decode cX11_copy 86 = .ok (.ireturn, 1) := by decide +kernel
theorem dX11_copy_87 : decode cX11_copy 87 = .ok (.aload 6, 2) := by decide +kernel
theorem dX11_copy_89 : decode cX11_copy 89 = .ok (.getfield 100, 3) := by decide +kernel
theorem dX11_copy_92 : decode cX11_copy 92 = .ok (.iload_n 2, 1) := by decide +kernel
theorem dX11_copy_93 : decode cX11_copy 93 = .ok (.aload 7, 2) := by decide +kernel
theorem dX11_copy_95 : decode cX11_copy 95 = .ok (.getfield 100, 3) := by decide +kernel
theorem dX11_copy_98 : decode cX11_copy 98 = .ok (.iload 4, 2) := by decide +kernel
theorem dX11_copy_100 : decode cX11_copy 100 = .ok (.iload 5, 2) := by decide +kernel
theorem dX11_copy_102 : decode cX11_copy 102 = .ok (.invokestatic 141, 3) := by decide +kernel
theorem dX11_copy_105 : decode cX11_copy 105 = .ok (.iload 5, 2) := by decide +kernel
theorem dX11_copy_107 : decode cX11_copy 107 = .ok (.ireturn, 1) := by decide +kernel
def F_X11_copy (d : Nat) (v0 : Option Nm) (v1 : Int32) (v2 : Int32) (v3 : Int32) (v4 : Int32) (v5 : Int32) (h : MH) (u : Nat) (Q : Int32 → MH → Prop) : Prop :=
  gR h v0 10 0 fun x1 =>
  rc h x1 6 ∧ iR d u_X7_findRow [jR x1, jL (v1.toInt64)] h u fun x2 h u =>
  gR h v0 10 0 fun x3 =>
  rc h x3 6 ∧ iR d u_X7_findRow [jR x3, jL (v3.toInt64)] h u fun x4 h u =>
  nl x2 (
    Q (-1) h) (
    nl x4 (
      Q (-1) h) (
      gI h x2 4 1 fun x5 =>
      gI h x4 4 1 fun x6 =>
      if x5 = x6 then
        gI h x4 4 3 fun x7 =>
        if x7 = 0 then
          rc h x2 4 ∧ iI d u_X5_hasRun [jR x2, jI v2, jI v5] h u fun x8 h u =>
          if x8 = 0 then
            rc h v0 10 ∧ iI d u_X11_failed [jR v0, jI 2] h u fun x9 h u =>
            Q x9 h
          else
            rc h x4 4 ∧ iI d u_X5_hasRun [jR x4, jI v4, jI v5] h u fun x10 h u =>
            if x10 = 0 then
              rc h v0 10 ∧ iI d u_X11_failed [jR v0, jI 2] h u fun x13 h u =>
              Q x13 h
            else
              gR h x2 4 2 fun x11 =>
              gR h x4 4 2 fun x12 =>
              cpL h x11 v2 x12 v4 v5 fun h =>
              Q v5 h
        else
          Q (-3) h
      else
        Q (-3) h))
set_option maxRecDepth 20000 in
theorem E_X11_copy {d : Nat} {v0 : Option Nm} {v1 : Int32} {v2 : Int32} {v3 : Int32} {v4 : Int32} {v5 : Int32} {h : MH} {u : Nat} {Q : Int32 → MH → Prop} (H : F_X11_copy d v0 v1 v2 v3 v4 v5 h u Q) : T u_X11_copy (d + 1) 0 [some (jR v0), some (jI v1), some (jI v2), some (jI v3), some (jI v4), some (jI v5), none, none] [] h u (qI Q) := by
  unfold F_X11_copy at H
  refine T_aload_n (pc := 0) dX11_copy_0 rfl rfl ?_
  refine T_gR (pc := 1) fa_X11_12 dX11_copy_1 (gR_mono (fun x1 H => ?_) H)
  refine T_iload_n (pc := 4) dX11_copy_4 rfl rfl ?_
  refine T_i2l (pc := 5) dX11_copy_5 ?_
  obtain ⟨H0, H⟩ := H
  refine T_iV (pc := 6) (ci := 6) (av := [jL (v1.toInt64)]) (rest := []) (o := x1) dX11_copy_6 mf_X7_findRow c_2_1 c_2_2 c_2_3 rfl rfl (Nat.le_of_ble_eq_true rfl) rfl H0 (iR_k (iR_mono (fun x2 h u H => ?_) H))
  refine T_astore (pc := 9) (ls2 := [some (jR v0), some (jI v1), some (jI v2), some (jI v3), some (jI v4), some (jI v5), some (jR x2), none]) dX11_copy_9 (Nat.le_of_ble_eq_true rfl) rfl ?_
  refine T_aload_n (pc := 11) dX11_copy_11 rfl rfl ?_
  refine T_gR (pc := 12) fa_X11_12 dX11_copy_12 (gR_mono (fun x3 H => ?_) H)
  refine T_iload_n (pc := 15) dX11_copy_15 rfl rfl ?_
  refine T_i2l (pc := 16) dX11_copy_16 ?_
  obtain ⟨H0, H⟩ := H
  refine T_iV (pc := 17) (ci := 6) (av := [jL (v3.toInt64)]) (rest := []) (o := x3) dX11_copy_17 mf_X7_findRow c_2_1 c_2_2 c_2_3 rfl rfl (Nat.le_of_ble_eq_true rfl) rfl H0 (iR_k (iR_mono (fun x4 h u H => ?_) H))
  refine T_astore (pc := 20) (ls2 := [some (jR v0), some (jI v1), some (jI v2), some (jI v3), some (jI v4), some (jI v5), some (jR x2), some (jR x4)]) dX11_copy_20 (Nat.le_of_ble_eq_true rfl) rfl ?_
  refine T_aload (pc := 22) dX11_copy_22 rfl ?_
  refine T_ifnull (pc := 24) (tgt := 32) dX11_copy_24 (by decide) (fun ho => ?_) (fun n ho => ?_)
  · replace H := nl_n ho H
    refine T_iconst (pc := 32) (v := (-1)) dX11_copy_32 (by decide) ?_
    exact T_ireturn (pc := 33) rfl rfl dX11_copy_33 H
  · replace H := nl_s ho H
    refine T_aload (pc := 27) dX11_copy_27 rfl ?_
    refine T_ifnonnull (pc := 29) (tgt := 34) dX11_copy_29 (by decide) (fun ho => ?_) (fun n ho => ?_)
    · replace H := nl_n ho H
      refine T_iconst (pc := 32) (v := (-1)) dX11_copy_32 (by decide) ?_
      exact T_ireturn (pc := 33) rfl rfl dX11_copy_33 H
    · replace H := nl_s ho H
      refine T_aload (pc := 34) dX11_copy_34 rfl ?_
      refine T_gI (pc := 36) fa_X11_93 dX11_copy_36 (gI_mono (fun x5 H => ?_) H)
      refine T_aload (pc := 39) dX11_copy_39 rfl ?_
      refine T_gI (pc := 41) fa_X11_93 dX11_copy_41 (gI_mono (fun x6 H => ?_) H)
      refine T_icmp_ne (pc := 44) (tgt := 55) dX11_copy_44 (by decide) (fun hc => ?_) (fun hc => ?_)
      · rw [if_neg hc] at H
        refine T_bipush (pc := 55) (v := (-3)) dX11_copy_55 (by decide) ?_
        exact T_ireturn (pc := 57) rfl rfl dX11_copy_57 H
      · rw [if_pos hc] at H
        refine T_aload (pc := 47) dX11_copy_47 rfl ?_
        refine T_gI (pc := 49) fa_X11_122 dX11_copy_49 (gI_mono (fun x7 H => ?_) H)
        refine T_if_eq (pc := 52) (tgt := 58) dX11_copy_52 (by decide) (fun hc => ?_) (fun hc => ?_)
        · rw [if_pos hc] at H
          refine T_aload (pc := 58) dX11_copy_58 rfl ?_
          refine T_iload_n (pc := 60) dX11_copy_60 rfl rfl ?_
          refine T_iload (pc := 61) dX11_copy_61 rfl ?_
          obtain ⟨H0, H⟩ := H
          refine T_iV (pc := 63) (ci := 4) (av := [jI v2, jI v5]) (rest := []) (o := x2) dX11_copy_63 mf_X5_hasRun c_2_90 c_2_91 c_2_92 rfl rfl (Nat.le_of_ble_eq_true rfl) rfl H0 (iI_k (iI_mono (fun x8 h u H => ?_) H))
          refine T_if_eq (pc := 66) (tgt := 81) dX11_copy_66 (by decide) (fun hc => ?_) (fun hc => ?_)
          · rw [if_pos hc] at H
            refine T_aload_n (pc := 81) dX11_copy_81 rfl rfl ?_
            refine T_iconst (pc := 82) (v := 2) dX11_copy_82 (by decide) ?_
            obtain ⟨H0, H⟩ := H
            refine T_iV (pc := 83) (ci := 10) (av := [jI 2]) (rest := []) (o := v0) dX11_copy_83 mf_X11_failed c_1_196 c_1_198 pr_X11_failed rfl rfl (Nat.le_of_ble_eq_true rfl) rfl H0 (iI_k (iI_mono (fun x9 h u H => ?_) H))
            exact T_ireturn (pc := 86) rfl rfl dX11_copy_86 H
          · rw [if_neg hc] at H
            refine T_aload (pc := 69) dX11_copy_69 rfl ?_
            refine T_iload (pc := 71) dX11_copy_71 rfl ?_
            refine T_iload (pc := 73) dX11_copy_73 rfl ?_
            obtain ⟨H0, H⟩ := H
            refine T_iV (pc := 75) (ci := 4) (av := [jI v4, jI v5]) (rest := []) (o := x4) dX11_copy_75 mf_X5_hasRun c_2_90 c_2_91 c_2_92 rfl rfl (Nat.le_of_ble_eq_true rfl) rfl H0 (iI_k (iI_mono (fun x10 h u H => ?_) H))
            refine T_if_ne (pc := 78) (tgt := 87) dX11_copy_78 (by decide) (fun hc => ?_) (fun hc => ?_)
            · rw [if_neg hc] at H
              refine T_aload (pc := 87) dX11_copy_87 rfl ?_
              refine T_gR (pc := 89) fa_X11_100 dX11_copy_89 (gR_mono (fun x11 H => ?_) H)
              refine T_iload_n (pc := 92) dX11_copy_92 rfl rfl ?_
              refine T_aload (pc := 93) dX11_copy_93 rfl ?_
              refine T_gR (pc := 95) fa_X11_100 dX11_copy_95 (gR_mono (fun x12 H => ?_) H)
              refine T_iload (pc := 98) dX11_copy_98 rfl ?_
              refine T_iload (pc := 100) dX11_copy_100 rfl ?_
              refine T_cpL (pc := 102) dX11_copy_102 c_2_94 c_2_96 c_2_95 c_1_13 (Nat.le_of_ble_eq_true rfl) (cpL_mono (fun h H => ?_) H)
              refine T_iload (pc := 105) dX11_copy_105 rfl ?_
              exact T_ireturn (pc := 107) rfl rfl dX11_copy_107 H
            · rw [if_pos hc] at H
              refine T_aload_n (pc := 81) dX11_copy_81 rfl rfl ?_
              refine T_iconst (pc := 82) (v := 2) dX11_copy_82 (by decide) ?_
              obtain ⟨H0, H⟩ := H
              refine T_iV (pc := 83) (ci := 10) (av := [jI 2]) (rest := []) (o := v0) dX11_copy_83 mf_X11_failed c_1_196 c_1_198 pr_X11_failed rfl rfl (Nat.le_of_ble_eq_true rfl) rfl H0 (iI_k (iI_mono (fun x13 h u H => ?_) H))
              exact T_ireturn (pc := 86) rfl rfl dX11_copy_86 H
        · rw [if_neg hc] at H
          refine T_bipush (pc := 55) (v := (-3)) dX11_copy_55 (by decide) ?_
          exact T_ireturn (pc := 57) rfl rfl dX11_copy_57 H
theorem I_X11_copy {d : Nat} {v0 : Option Nm} {v1 : Int32} {v2 : Int32} {v3 : Int32} {v4 : Int32} {v5 : Int32} {h : MH} {u : Nat} {K : Int32 → MH → Nat → Prop} (u1 : Nat) (hu : u1 ≤ u) (H : F_X11_copy d v0 v1 v2 v3 v4 v5 h u1 (fun x h2 => K x h2 (u - u1))) : iI (d + 1) u_X11_copy [jR v0, jI v1, jI v2, jI v3, jI v4, jI v5] h u K := inv.of u1 hu (Ct.of (by decide +kernel) rfl (Nat.le_of_ble_eq_true rfl) rfl (E_X11_copy H))
theorem dX11_twin_0 : decode cX11_twin 0 = .ok (.aload_n 0, 1) := by decide +kernel
theorem dX11_twin_1 : decode cX11_twin 1 = .ok (.getfield 12, 3) := by decide +kernel
theorem dX11_twin_4 : decode cX11_twin 4 = .ok (.iload_n 1, 1) := by decide +kernel
theorem dX11_twin_5 : decode cX11_twin 5 = .ok (.i2l, 1) := by decide +kernel
theorem dX11_twin_6 : decode cX11_twin 6 = .ok (.invokevirtual 86, 3) := by decide +kernel
theorem dX11_twin_9 : decode cX11_twin 9 = .ok (.astore_n 2, 1) := by decide +kernel
theorem dX11_twin_10 : decode cX11_twin 10 = .ok (.aload_n 2, 1) := by decide +kernel
theorem dX11_twin_11 : decode cX11_twin 11 = .ok (.ifnonnull 5, 3) := by decide +kernel
theorem dX11_twin_14 : decode cX11_twin 14 = .ok (.iconst (-1), 1) := by decide +kernel
theorem dX11_twin_15 : decode cX11_twin 15 = .ok (.ireturn, 1) := by decide +kernel
theorem dX11_twin_16 : decode cX11_twin 16 = .ok (.aload_n 0, 1) := by decide +kernel
theorem dX11_twin_17 : decode cX11_twin 17 = .ok (.aload_n 2, 1) := by decide +kernel
theorem dX11_twin_18 : decode cX11_twin 18 = .ok (.invokevirtual 147, 3) := by decide +kernel
theorem dX11_twin_21 : decode cX11_twin 21 = .ok (.ireturn, 1) := by decide +kernel
def F_X11_twin (d : Nat) (v0 : Option Nm) (v1 : Int32) (h : MH) (u : Nat) (Q : Int32 → MH → Prop) : Prop :=
  gR h v0 10 0 fun x1 =>
  rc h x1 6 ∧ iR d u_X7_findRow [jR x1, jL (v1.toInt64)] h u fun x2 h u =>
  nl x2 (
    Q (-1) h) (
    rc h v0 10 ∧ iI d u_X11_freeTwin [jR v0, jR x2] h u fun x3 h u =>
    Q x3 h)
set_option maxRecDepth 20000 in
theorem E_X11_twin {d : Nat} {v0 : Option Nm} {v1 : Int32} {h : MH} {u : Nat} {Q : Int32 → MH → Prop} (H : F_X11_twin d v0 v1 h u Q) : T u_X11_twin (d + 1) 0 [some (jR v0), some (jI v1), none] [] h u (qI Q) := by
  unfold F_X11_twin at H
  refine T_aload_n (pc := 0) dX11_twin_0 rfl rfl ?_
  refine T_gR (pc := 1) fa_X11_12 dX11_twin_1 (gR_mono (fun x1 H => ?_) H)
  refine T_iload_n (pc := 4) dX11_twin_4 rfl rfl ?_
  refine T_i2l (pc := 5) dX11_twin_5 ?_
  obtain ⟨H0, H⟩ := H
  refine T_iV (pc := 6) (ci := 6) (av := [jL (v1.toInt64)]) (rest := []) (o := x1) dX11_twin_6 mf_X7_findRow c_2_1 c_2_2 c_2_3 rfl rfl (Nat.le_of_ble_eq_true rfl) rfl H0 (iR_k (iR_mono (fun x2 h u H => ?_) H))
  refine T_astore_n (pc := 9) (ls2 := [some (jR v0), some (jI v1), some (jR x2)]) dX11_twin_9 rfl (Nat.le_of_ble_eq_true rfl) rfl ?_
  refine T_aload_n (pc := 10) dX11_twin_10 rfl rfl ?_
  refine T_ifnonnull (pc := 11) (tgt := 16) dX11_twin_11 (by decide) (fun ho => ?_) (fun n ho => ?_)
  · replace H := nl_n ho H
    refine T_iconst (pc := 14) (v := (-1)) dX11_twin_14 (by decide) ?_
    exact T_ireturn (pc := 15) rfl rfl dX11_twin_15 H
  · replace H := nl_s ho H
    refine T_aload_n (pc := 16) dX11_twin_16 rfl rfl ?_
    refine T_aload_n (pc := 17) dX11_twin_17 rfl rfl ?_
    obtain ⟨H0, H⟩ := H
    refine T_iV (pc := 18) (ci := 10) (av := [jR x2]) (rest := []) (o := v0) dX11_twin_18 mf_X11_freeTwin c_2_101 c_2_103 pr_X11_freeTwin rfl rfl (Nat.le_of_ble_eq_true rfl) rfl H0 (iI_k (iI_mono (fun x3 h u H => ?_) H))
    exact T_ireturn (pc := 21) rfl rfl dX11_twin_21 H
theorem I_X11_twin {d : Nat} {v0 : Option Nm} {v1 : Int32} {h : MH} {u : Nat} {K : Int32 → MH → Nat → Prop} (u1 : Nat) (hu : u1 ≤ u) (H : F_X11_twin d v0 v1 h u1 (fun x h2 => K x h2 (u - u1))) : iI (d + 1) u_X11_twin [jR v0, jI v1] h u K := inv.of u1 hu (Ct.of (by decide +kernel) rfl (Nat.le_of_ble_eq_true rfl) rfl (E_X11_twin H))
theorem dX11_record_0 : decode cX11_record 0 = .ok (.iload_n 1, 1) := by decide +kernel
theorem dX11_record_1 : decode cX11_record 1 = .ok (.iconst 0, 1) := by decide +kernel
theorem dX11_record_2 : decode cX11_record 2 = .ok (.iconst 4, 1) := by decide +kernel
theorem dX11_record_3 : decode cX11_record 3 = .ok (.invokestatic 64, 3) := by decide +kernel
theorem dX11_record_6 : decode cX11_record 6 = .ok (.ifCond .eq 12, 3) := by decide +kernel
theorem dX11_record_9 : decode cX11_record 9 = .ok (.aload_n 0, 1) := by decide +kernel
theorem dX11_record_10 : decode cX11_record 10 = .ok (.iconst 0, 1) := by decide +kernel
theorem dX11_record_11 : decode cX11_record 11 = .ok (.iload_n 1, 1) := by decide +kernel
theorem dX11_record_12 : decode cX11_record 12 = .ok (.invokevirtual 151, 3) := by decide +kernel
theorem dX11_record_15 : decode cX11_record 15 = .ok (.goto 5, 3) := by decide +kernel
theorem dX11_record_18 : decode cX11_record 18 = .ok (.bipush (-2), 2) := by decide +kernel
theorem dX11_record_20 : decode cX11_record 20 = .ok (.ireturn, 1) := by decide +kernel
def F_X11_record (d : Nat) (v0 : Option Nm) (v1 : Int32) (h : MH) (u : Nat) (Q : Int32 → MH → Prop) : Prop :=
  iI d u_X11_isWithin [jI v1, jI 0, jI 4] h u fun x1 h u =>
  if x1 = 0 then
    Q (-2) h
  else
    rc h v0 10 ∧ iI d u_X11_newKind [jR v0, jI 0, jI v1] h u fun x2 h u =>
    Q x2 h
set_option maxRecDepth 20000 in
theorem E_X11_record {d : Nat} {v0 : Option Nm} {v1 : Int32} {h : MH} {u : Nat} {Q : Int32 → MH → Prop} (H : F_X11_record d v0 v1 h u Q) : T u_X11_record (d + 1) 0 [some (jR v0), some (jI v1)] [] h u (qI Q) := by
  unfold F_X11_record at H
  refine T_iload_n (pc := 0) dX11_record_0 rfl rfl ?_
  refine T_iconst (pc := 1) (v := 0) dX11_record_1 (by decide) ?_
  refine T_iconst (pc := 2) (v := 4) dX11_record_2 (by decide) ?_
  refine T_invS (pc := 3) (av := [jI v1, jI 0, jI 4]) (rest := []) dX11_record_3 mf_X11_isWithin c_1_189 c_1_190 rfl (Nat.le_of_ble_eq_true rfl) rfl (iI_k (iI_mono (fun x1 h u H => ?_) H))
  refine T_if_eq (pc := 6) (tgt := 18) dX11_record_6 (by decide) (fun hc => ?_) (fun hc => ?_)
  · rw [if_pos hc] at H
    refine T_bipush (pc := 18) (v := (-2)) dX11_record_18 (by decide) ?_
    exact T_ireturn (pc := 20) rfl rfl dX11_record_20 H
  · rw [if_neg hc] at H
    refine T_aload_n (pc := 9) dX11_record_9 rfl rfl ?_
    refine T_iconst (pc := 10) (v := 0) dX11_record_10 (by decide) ?_
    refine T_iload_n (pc := 11) dX11_record_11 rfl rfl ?_
    obtain ⟨H0, H⟩ := H
    refine T_iV (pc := 12) (ci := 10) (av := [jI 0, jI v1]) (rest := []) (o := v0) dX11_record_12 mf_X11_newKind c_2_115 c_2_117 pr_X11_newKind rfl rfl (Nat.le_of_ble_eq_true rfl) rfl H0 (iI_k (iI_mono (fun x2 h u H => ?_) H))
    refine T_goto (pc := 15) (tgt := 20) dX11_record_15 (by decide) ?_
    exact T_ireturn (pc := 20) rfl rfl dX11_record_20 H
theorem I_X11_record {d : Nat} {v0 : Option Nm} {v1 : Int32} {h : MH} {u : Nat} {K : Int32 → MH → Nat → Prop} (u1 : Nat) (hu : u1 ≤ u) (H : F_X11_record d v0 v1 h u1 (fun x h2 => K x h2 (u - u1))) : iI (d + 1) u_X11_record [jR v0, jI v1] h u K := inv.of u1 hu (Ct.of (by decide +kernel) rfl (Nat.le_of_ble_eq_true rfl) rfl (E_X11_record H))
theorem dX11_constants_0 : decode cX11_constants 0 = .ok (.iload_n 1, 1) := by decide +kernel
theorem dX11_constants_1 : decode cX11_constants 1 = .ok (.iconst 0, 1) := by decide +kernel
theorem dX11_constants_2 : decode cX11_constants 2 = .ok (.iconst 3, 1) := by decide +kernel
theorem dX11_constants_3 : decode cX11_constants 3 = .ok (.invokestatic 64, 3) := by decide +kernel
theorem dX11_constants_6 : decode cX11_constants 6 = .ok (.ifCond .eq 12, 3) := by decide +kernel
theorem dX11_constants_9 : decode cX11_constants 9 = .ok (.aload_n 0, 1) := by decide +kernel
theorem dX11_constants_10 : decode cX11_constants 10 = .ok (.iconst 1, 1) := by decide +kernel
theorem dX11_constants_11 : decode cX11_constants 11 = .ok (.iload_n 1, 1) := by decide +kernel
theorem dX11_constants_12 : decode cX11_constants 12 = .ok (.invokevirtual 151, 3) := by decide +kernel
theorem dX11_constants_15 : decode cX11_constants 15 = .ok (.goto 5, 3) := by decide +kernel
theorem dX11_constants_18 : decode cX11_constants 18 = .ok (.bipush (-2), 2) := by decide +kernel
theorem dX11_constants_20 : decode cX11_constants 20 = .ok (.ireturn, 1) := by decide +kernel
def F_X11_constants (d : Nat) (v0 : Option Nm) (v1 : Int32) (h : MH) (u : Nat) (Q : Int32 → MH → Prop) : Prop :=
  iI d u_X11_isWithin [jI v1, jI 0, jI 3] h u fun x1 h u =>
  if x1 = 0 then
    Q (-2) h
  else
    rc h v0 10 ∧ iI d u_X11_newKind [jR v0, jI 1, jI v1] h u fun x2 h u =>
    Q x2 h
set_option maxRecDepth 20000 in
theorem E_X11_constants {d : Nat} {v0 : Option Nm} {v1 : Int32} {h : MH} {u : Nat} {Q : Int32 → MH → Prop} (H : F_X11_constants d v0 v1 h u Q) : T u_X11_constants (d + 1) 0 [some (jR v0), some (jI v1)] [] h u (qI Q) := by
  unfold F_X11_constants at H
  refine T_iload_n (pc := 0) dX11_constants_0 rfl rfl ?_
  refine T_iconst (pc := 1) (v := 0) dX11_constants_1 (by decide) ?_
  refine T_iconst (pc := 2) (v := 3) dX11_constants_2 (by decide) ?_
  refine T_invS (pc := 3) (av := [jI v1, jI 0, jI 3]) (rest := []) dX11_constants_3 mf_X11_isWithin c_1_189 c_1_190 rfl (Nat.le_of_ble_eq_true rfl) rfl (iI_k (iI_mono (fun x1 h u H => ?_) H))
  refine T_if_eq (pc := 6) (tgt := 18) dX11_constants_6 (by decide) (fun hc => ?_) (fun hc => ?_)
  · rw [if_pos hc] at H
    refine T_bipush (pc := 18) (v := (-2)) dX11_constants_18 (by decide) ?_
    exact T_ireturn (pc := 20) rfl rfl dX11_constants_20 H
  · rw [if_neg hc] at H
    refine T_aload_n (pc := 9) dX11_constants_9 rfl rfl ?_
    refine T_iconst (pc := 10) (v := 1) dX11_constants_10 (by decide) ?_
    refine T_iload_n (pc := 11) dX11_constants_11 rfl rfl ?_
    obtain ⟨H0, H⟩ := H
    refine T_iV (pc := 12) (ci := 10) (av := [jI 1, jI v1]) (rest := []) (o := v0) dX11_constants_12 mf_X11_newKind c_2_115 c_2_117 pr_X11_newKind rfl rfl (Nat.le_of_ble_eq_true rfl) rfl H0 (iI_k (iI_mono (fun x2 h u H => ?_) H))
    refine T_goto (pc := 15) (tgt := 20) dX11_constants_15 (by decide) ?_
    exact T_ireturn (pc := 20) rfl rfl dX11_constants_20 H
theorem I_X11_constants {d : Nat} {v0 : Option Nm} {v1 : Int32} {h : MH} {u : Nat} {K : Int32 → MH → Nat → Prop} (u1 : Nat) (hu : u1 ≤ u) (H : F_X11_constants d v0 v1 h u1 (fun x h2 => K x h2 (u - u1))) : iI (d + 1) u_X11_constants [jR v0, jI v1] h u K := inv.of u1 hu (Ct.of (by decide +kernel) rfl (Nat.le_of_ble_eq_true rfl) rfl (E_X11_constants H))
theorem dX11_more_0 : decode cX11_more 0 = .ok (.aload_n 0, 1) := by decide +kernel
theorem dX11_more_1 : decode cX11_more 1 = .ok (.iload_n 1, 1) := by decide +kernel
theorem dX11_more_2 : decode cX11_more 2 = .ok (.invokevirtual 155, 3) := by decide +kernel
theorem dX11_more_5 : decode cX11_more 5 = .ok (.astore 4, 2) := by decide +kernel
theorem dX11_more_7 : decode cX11_more 7 = .ok (.aload 4, 2) := by decide +kernel
theorem dX11_more_9 : decode cX11_more 9 = .ok (.ifnonnull 5, 3) := by decide +kernel
theorem dX11_more_12 : decode cX11_more 12 = .ok (.iconst (-1), 1) := by decide +kernel
theorem dX11_more_13 : decode cX11_more 13 = .ok (.ireturn, 1) := by decide +kernel
theorem dX11_more_14 : decode cX11_more 14 = .ok (.iload_n 2, 1) := by decide +kernel
theorem dX11_more_15 : decode cX11_more 15 = .ok (.invokestatic 159, 3) := by decide +kernel
theorem dX11_more_18 : decode cX11_more 18 = .ok (.ifCond .eq 12, 3) := by decide +kernel
theorem dX11_more_21 : decode cX11_more 21 = .ok (.aload 4, 2) := by decide +kernel
theorem dX11_more_23 : decode cX11_more 23 = .ok (.iload_n 3, 1) := by decide +kernel
theorem dX11_more_24 : decode cX11_more 24 = .ok (.invokevirtual 162, 3) := by decide +kernel
theorem dX11_more_27 : decode cX11_more 27 = .ok (.ifCond .ne 6, 3) := by decide +kernel
theorem dX11_more_30 : decode cX11_more 30 = .ok (.bipush (-2), 2) := by decide +kernel
theorem dX11_more_32 : decode cX11_more 32 = .ok (.ireturn, 1) := by decide +kernel
theorem dX11_more_33 : decode cX11_more 33 = .ok (.aload 4, 2) := by decide +kernel
theorem dX11_more_35 : decode cX11_more 35 = .ok (.invokevirtual 165, 3) := by decide +kernel
theorem dX11_more_38 : decode cX11_more 38 = .ok (.astore 5, 2) := by decide +kernel
theorem dX11_more_40 : decode cX11_more 40 = .ok (.aload 4, 2) := by decide +kernel
theorem dX11_more_42 : decode cX11_more 42 = .ok (.getfield 169, 3) := by decide +kernel
theorem dX11_more_45 : decode cX11_more 45 = .ok (.ifCond .ne 13, 3) := by decide +kernel
theorem dX11_more_48 : decode cX11_more 48 = .ok (.aload 5, 2) := by decide +kernel
theorem dX11_more_50 : decode cX11_more 50 = .ok (.iload_n 2, 1) := by decide +kernel
theorem dX11_more_51 : decode cX11_more 51 = .ok (.invokevirtual 172, 3) := by decide +kernel
theorem dX11_more_54 : decode cX11_more 54 = .ok (.iconst (-1), 1) := by decide +kernel
theorem dX11_more_55 : decode cX11_more 55 = .ok (.if_icmp .eq 6, 3) := by decide +kernel
theorem dX11_more_58 : decode cX11_more 58 = .ok (.bipush (-3), 2) := by decide +kernel
theorem dX11_more_60 : decode cX11_more 60 = .ok (.ireturn, 1) := by decide +kernel
theorem dX11_more_61 : decode cX11_more 61 = .ok (.aload 5, 2) := by decide +kernel
theorem dX11_more_63 : decode cX11_more 63 = .ok (.invokevirtual 177, 3) := by decide +kernel
theorem dX11_more_66 : decode cX11_more 66 = .ok (.ifCond .eq 6, 3) := by decide +kernel
theorem dX11_more_69 : decode cX11_more 69 = .ok (.bipush (-4), 2) := by decide +kernel
theorem dX11_more_71 : decode cX11_more 71 = .ok (.ireturn, 1) := by decide +kernel
theorem dX11_more_72 : decode cX11_more 72 = .ok (.aload 5, 2) := by decide +kernel
theorem dX11_more_74 : decode cX11_more 74 = .ok (.iload_n 2, 1) := by decide +kernel
theorem dX11_more_75 : decode cX11_more 75 = .ok (.iload_n 3, 1) := by decide +kernel
theorem dX11_more_76 : decode cX11_more 76 = .ok (.invokevirtual 181, 3) := by decide +kernel
theorem dX11_more_79 : decode cX11_more 79 = .ok (.aload 5, 2) := by decide +kernel
theorem dX11_more_81 : decode cX11_more 81 = .ok (.getfield 185, 3) := by decide +kernel
theorem dX11_more_84 : decode cX11_more 84 = .ok (.ireturn, 1) := by decide +kernel
def F_X11_more (d : Nat) (v0 : Option Nm) (v1 : Int32) (v2 : Int32) (v3 : Int32) (h : MH) (u : Nat) (Q : Int32 → MH → Prop) : Prop :=
  rc h v0 10 ∧ iR d u_X11_findKind [jR v0, jI v1] h u fun x1 h u =>
  nl x1 (
    Q (-1) h) (
    iI d u_X11_isLabel [jI v2] h u fun x2 h u =>
    if x2 = 0 then
      Q (-2) h
    else
      rc h x1 3 ∧ iI d u_X3_takesLane [jR x1, jI v3] h u fun x3 h u =>
      if x3 = 0 then
        Q (-2) h
      else
        rc h x1 3 ∧ iR d u_X3_newest [jR x1] h u fun x4 h u =>
        gI h x1 3 5 fun x5 =>
        if x5 = 0 then
          rc h x4 2 ∧ iI d u_X2_find [jR x4, jI v2] h u fun x6 h u =>
          if x6 = (-1) then
            rc h x4 2 ∧ iI d u_X2_isFull [jR x4] h u fun x7 h u =>
            if x7 = 0 then
              rc h x4 2 ∧ iV d u_X2_add [jR x4, jI v2, jI v3] h u fun h u =>
              gI h x4 2 4 fun x9 =>
              Q x9 h
            else
              Q (-4) h
          else
            Q (-3) h
        else
          Q (-3) h)
set_option maxRecDepth 20000 in
theorem E_X11_more {d : Nat} {v0 : Option Nm} {v1 : Int32} {v2 : Int32} {v3 : Int32} {h : MH} {u : Nat} {Q : Int32 → MH → Prop} (H : F_X11_more d v0 v1 v2 v3 h u Q) : T u_X11_more (d + 1) 0 [some (jR v0), some (jI v1), some (jI v2), some (jI v3), none, none] [] h u (qI Q) := by
  unfold F_X11_more at H
  refine T_aload_n (pc := 0) dX11_more_0 rfl rfl ?_
  refine T_iload_n (pc := 1) dX11_more_1 rfl rfl ?_
  obtain ⟨H0, H⟩ := H
  refine T_iV (pc := 2) (ci := 10) (av := [jI v1]) (rest := []) (o := v0) dX11_more_2 mf_X11_findKind c_2_199 c_2_201 pr_X11_findKind rfl rfl (Nat.le_of_ble_eq_true rfl) rfl H0 (iR_k (iR_mono (fun x1 h u H => ?_) H))
  refine T_astore (pc := 5) (ls2 := [some (jR v0), some (jI v1), some (jI v2), some (jI v3), some (jR x1), none]) dX11_more_5 (Nat.le_of_ble_eq_true rfl) rfl ?_
  refine T_aload (pc := 7) dX11_more_7 rfl ?_
  refine T_ifnonnull (pc := 9) (tgt := 14) dX11_more_9 (by decide) (fun ho => ?_) (fun n ho => ?_)
  · replace H := nl_n ho H
    refine T_iconst (pc := 12) (v := (-1)) dX11_more_12 (by decide) ?_
    exact T_ireturn (pc := 13) rfl rfl dX11_more_13 H
  · replace H := nl_s ho H
    refine T_iload_n (pc := 14) dX11_more_14 rfl rfl ?_
    refine T_invS (pc := 15) (av := [jI v2]) (rest := []) dX11_more_15 mf_X11_isLabel c_2_203 c_2_204 rfl (Nat.le_of_ble_eq_true rfl) rfl (iI_k (iI_mono (fun x2 h u H => ?_) H))
    refine T_if_eq (pc := 18) (tgt := 30) dX11_more_18 (by decide) (fun hc => ?_) (fun hc => ?_)
    · rw [if_pos hc] at H
      refine T_bipush (pc := 30) (v := (-2)) dX11_more_30 (by decide) ?_
      exact T_ireturn (pc := 32) rfl rfl dX11_more_32 H
    · rw [if_neg hc] at H
      refine T_aload (pc := 21) dX11_more_21 rfl ?_
      refine T_iload_n (pc := 23) dX11_more_23 rfl rfl ?_
      obtain ⟨H0, H⟩ := H
      refine T_iV (pc := 24) (ci := 3) (av := [jI v3]) (rest := []) (o := x1) dX11_more_24 mf_X3_takesLane c_2_206 c_2_207 c_2_208 rfl rfl (Nat.le_of_ble_eq_true rfl) rfl H0 (iI_k (iI_mono (fun x3 h u H => ?_) H))
      refine T_if_ne (pc := 27) (tgt := 33) dX11_more_27 (by decide) (fun hc => ?_) (fun hc => ?_)
      · rw [if_neg hc] at H
        refine T_aload (pc := 33) dX11_more_33 rfl ?_
        obtain ⟨H0, H⟩ := H
        refine T_iV (pc := 35) (ci := 3) (av := []) (rest := []) (o := x1) dX11_more_35 mf_X3_newest c_2_213 c_2_214 c_2_215 rfl rfl (Nat.le_of_ble_eq_true rfl) rfl H0 (iR_k (iR_mono (fun x4 h u H => ?_) H))
        refine T_astore (pc := 38) (ls2 := [some (jR v0), some (jI v1), some (jI v2), some (jI v3), some (jR x1), some (jR x4)]) dX11_more_38 (Nat.le_of_ble_eq_true rfl) rfl ?_
        refine T_aload (pc := 40) dX11_more_40 rfl ?_
        refine T_gI (pc := 42) fa_X11_169 dX11_more_42 (gI_mono (fun x5 H => ?_) H)
        refine T_if_ne (pc := 45) (tgt := 58) dX11_more_45 (by decide) (fun hc => ?_) (fun hc => ?_)
        · rw [if_neg hc] at H
          refine T_bipush (pc := 58) (v := (-3)) dX11_more_58 (by decide) ?_
          exact T_ireturn (pc := 60) rfl rfl dX11_more_60 H
        · rw [if_pos hc] at H
          refine T_aload (pc := 48) dX11_more_48 rfl ?_
          refine T_iload_n (pc := 50) dX11_more_50 rfl rfl ?_
          obtain ⟨H0, H⟩ := H
          refine T_iV (pc := 51) (ci := 2) (av := [jI v2]) (rest := []) (o := x4) dX11_more_51 mf_X2_find c_2_217 c_2_218 c_2_219 rfl rfl (Nat.le_of_ble_eq_true rfl) rfl H0 (iI_k (iI_mono (fun x6 h u H => ?_) H))
          refine T_iconst (pc := 54) (v := (-1)) dX11_more_54 (by decide) ?_
          refine T_icmp_eq (pc := 55) (tgt := 61) dX11_more_55 (by decide) (fun hc => ?_) (fun hc => ?_)
          · rw [if_pos hc] at H
            refine T_aload (pc := 61) dX11_more_61 rfl ?_
            obtain ⟨H0, H⟩ := H
            refine T_iV (pc := 63) (ci := 2) (av := []) (rest := []) (o := x4) dX11_more_63 mf_X2_isFull c_2_221 c_2_222 c_2_223 rfl rfl (Nat.le_of_ble_eq_true rfl) rfl H0 (iI_k (iI_mono (fun x7 h u H => ?_) H))
            refine T_if_eq (pc := 66) (tgt := 72) dX11_more_66 (by decide) (fun hc => ?_) (fun hc => ?_)
            · rw [if_pos hc] at H
              refine T_aload (pc := 72) dX11_more_72 rfl ?_
              refine T_iload_n (pc := 74) dX11_more_74 rfl rfl ?_
              refine T_iload_n (pc := 75) dX11_more_75 rfl rfl ?_
              obtain ⟨H0, H⟩ := H
              refine T_iV (pc := 76) (ci := 2) (av := [jI v2, jI v3]) (rest := []) (o := x4) dX11_more_76 mf_X2_add c_2_225 c_2_226 c_2_227 rfl rfl (Nat.le_of_ble_eq_true rfl) rfl H0 (iV_k (iV_mono (fun h u H => ?_) H))
              refine T_aload (pc := 79) dX11_more_79 rfl ?_
              refine T_gI (pc := 81) fa_X11_185 dX11_more_81 (gI_mono (fun x9 H => ?_) H)
              exact T_ireturn (pc := 84) rfl rfl dX11_more_84 H
            · rw [if_neg hc] at H
              refine T_bipush (pc := 69) (v := (-4)) dX11_more_69 (by decide) ?_
              exact T_ireturn (pc := 71) rfl rfl dX11_more_71 H
          · rw [if_neg hc] at H
            refine T_bipush (pc := 58) (v := (-3)) dX11_more_58 (by decide) ?_
            exact T_ireturn (pc := 60) rfl rfl dX11_more_60 H
      · rw [if_pos hc] at H
        refine T_bipush (pc := 30) (v := (-2)) dX11_more_30 (by decide) ?_
        exact T_ireturn (pc := 32) rfl rfl dX11_more_32 H
theorem I_X11_more {d : Nat} {v0 : Option Nm} {v1 : Int32} {v2 : Int32} {v3 : Int32} {h : MH} {u : Nat} {K : Int32 → MH → Nat → Prop} (u1 : Nat) (hu : u1 ≤ u) (H : F_X11_more d v0 v1 v2 v3 h u1 (fun x h2 => K x h2 (u - u1))) : iI (d + 1) u_X11_more [jR v0, jI v1, jI v2, jI v3] h u K := inv.of u1 hu (Ct.of (by decide +kernel) rfl (Nat.le_of_ble_eq_true rfl) rfl (E_X11_more H))
theorem dX11_edition_0 : decode cX11_edition 0 = .ok (.aload_n 0, 1) := by decide +kernel
theorem dX11_edition_1 : decode cX11_edition 1 = .ok (.iload_n 1, 1) := by decide +kernel
theorem dX11_edition_2 : decode cX11_edition 2 = .ok (.invokevirtual 155, 3) := by decide +kernel
theorem dX11_edition_5 : decode cX11_edition 5 = .ok (.astore 5, 2) := by decide +kernel
theorem dX11_edition_7 : decode cX11_edition 7 = .ok (.aload 5, 2) := by decide +kernel
theorem dX11_edition_9 : decode cX11_edition 9 = .ok (.ifnonnull 5, 3) := by decide +kernel
theorem dX11_edition_12 : decode cX11_edition 12 = .ok (.iconst (-1), 1) := by decide +kernel
theorem dX11_edition_13 : decode cX11_edition 13 = .ok (.ireturn, 1) := by decide +kernel
theorem dX11_edition_14 : decode cX11_edition 14 = .ok (.aload 5, 2) := by decide +kernel
theorem dX11_edition_16 : decode cX11_edition 16 = .ok (.iload_n 2, 1) := by decide +kernel
theorem dX11_edition_17 : decode cX11_edition 17 = .ok (.iload_n 3, 1) := by decide +kernel
theorem dX11_edition_18 : decode cX11_edition 18 = .ok (.iload 4, 2) := by decide +kernel
theorem dX11_edition_20 : decode cX11_edition 20 = .ok (.invokestatic 188, 3) := by decide +kernel
theorem dX11_edition_23 : decode cX11_edition 23 = .ok (.ifCond .ne 6, 3) := by decide +kernel
theorem dX11_edition_26 : decode cX11_edition 26 = .ok (.bipush (-2), 2) := by decide +kernel
theorem dX11_edition_28 : decode cX11_edition 28 = .ok (.ireturn, 1) := by decide +kernel
theorem dX11_edition_29 : decode cX11_edition 29 = .ok (.aload 5, 2) := by decide +kernel
theorem dX11_edition_31 : decode cX11_edition 31 = .ok (.getfield 169, 3) := by decide +kernel
theorem dX11_edition_34 : decode cX11_edition 34 = .ok (.ifCond .eq 16, 3) := by decide +kernel
theorem dX11_edition_37 : decode cX11_edition 37 = .ok (.iload_n 2, 1) := by decide +kernel
theorem dX11_edition_38 : decode cX11_edition 38 = .ok (.iconst 2, 1) := by decide +kernel
theorem dX11_edition_39 : decode cX11_edition 39 = .ok (.if_icmp .ne 14, 3) := by decide +kernel
theorem dX11_edition_42 : decode cX11_edition 42 = .ok (.aload 5, 2) := by decide +kernel
theorem dX11_edition_44 : decode cX11_edition 44 = .ok (.getfield 192, 3) := by decide +kernel
theorem dX11_edition_47 : decode cX11_edition 47 = .ok (.ifCond .eq 6, 3) := by decide +kernel
theorem dX11_edition_50 : decode cX11_edition 50 = .ok (.bipush (-3), 2) := by decide +kernel
theorem dX11_edition_52 : decode cX11_edition 52 = .ok (.ireturn, 1) := by decide +kernel
theorem dX11_edition_53 : decode cX11_edition 53 = .ok (.aload 5, 2) := by decide +kernel
theorem dX11_edition_55 : decode cX11_edition 55 = .ok (.invokevirtual 165, 3) := by decide +kernel
theorem dX11_edition_58 : decode cX11_edition 58 = .ok (.iload_n 3, 1) := by decide +kernel
theorem dX11_edition_59 : decode cX11_edition 59 = .ok (.invokevirtual 172, 3) := by decide +kernel
theorem dX11_edition_62 : decode cX11_edition 62 = .ok (.iconst (-1), 1) := by decide +kernel
theorem dX11_edition_63 : decode cX11_edition 63 = .ok (.if_icmp .eq 7, 3) := by decide +kernel
theorem dX11_edition_66 : decode cX11_edition 66 = .ok (.iconst 1, 1) := by decide +kernel
theorem dX11_edition_67 : decode cX11_edition 67 = .ok (.goto 4, 3) := by decide +kernel
theorem dX11_edition_70 : decode cX11_edition 70 = .ok (.iconst 0, 1) := by decide +kernel
theorem dX11_edition_71 : decode cX11_edition 71 = .ok (.istore 6, 2) := by decide +kernel
theorem dX11_edition_73 : decode cX11_edition 73 = .ok (.iload_n 2, 1) := by decide +kernel
theorem dX11_edition_74 : decode cX11_edition 74 = .ok (.iconst 3, 1) := by decide +kernel
theorem dX11_edition_75 : decode cX11_edition 75 = .ok (.if_icmp .eq 20, 3) := by decide +kernel
theorem dX11_edition_78 : decode cX11_edition 78 = .ok (.iload 6, 2) := by decide +kernel
theorem dX11_edition_80 : decode cX11_edition 80 = .ok (.iload_n 2, 1) := by decide +kernel
theorem dX11_edition_81 : decode cX11_edition 81 = .ok (.ifCond .ne 7, 3) := by decide +kernel
theorem dX11_edition_84 : decode cX11_edition 84 = .ok (.iconst 1, 1) := by decide +kernel
theorem dX11_edition_85 : decode cX11_edition 85 = .ok (.goto 4, 3) := by decide +kernel
theorem dX11_edition_88 : decode cX11_edition 88 = .ok (.iconst 0, 1) := by decide +kernel
theorem dX11_edition_89 : decode cX11_edition 89 = .ok (.if_icmp .ne 6, 3) := by decide +kernel
theorem dX11_edition_92 : decode cX11_edition 92 = .ok (.bipush (-3), 2) := by decide +kernel
theorem dX11_edition_94 : decode cX11_edition 94 = .ok (.ireturn, 1) := by decide +kernel
theorem dX11_edition_95 : decode cX11_edition 95 = .ok (.aload_n 0, 1) := by decide +kernel
theorem dX11_edition_96 : decode cX11_edition 96 = .ok (.aload 5, 2) := by decide +kernel
theorem dX11_edition_98 : decode cX11_edition 98 = .ok (.iload_n 2, 1) := by decide +kernel
theorem dX11_edition_99 : decode cX11_edition 99 = .ok (.invokevirtual 195, 3) := by decide +kernel
theorem dX11_edition_102 : decode cX11_edition 102 = .ok (.ifCond .ne 6, 3) := by decide +kernel
theorem dX11_edition_105 : decode cX11_edition 105 = .ok (.bipush (-4), 2) := by decide +kernel
theorem dX11_edition_107 : decode cX11_edition 107 = .ok (.ireturn, 1) := by decide +kernel
theorem dX11_edition_108 : decode cX11_edition 108 = .ok (.aload 5, 2) := by decide +kernel
theorem dX11_edition_110 : decode cX11_edition 110 = .ok (.invokevirtual 199, 3) := by decide +kernel
theorem dX11_edition_113 : decode cX11_edition 113 = .ok (.astore 7, 2) := by decide +kernel
theorem dX11_edition_115 : decode cX11_edition 115 = .ok (.aload 7, 2) := by decide +kernel
theorem dX11_edition_117 : decode cX11_edition 117 = .ok (.iload_n 2, 1) := by decide +kernel
theorem dX11_edition_118 : decode cX11_edition 118 = .ok (.iload_n 3, 1) := by decide +kernel
theorem dX11_edition_119 : decode cX11_edition 119 = .ok (.iload 4, 2) := by decide +kernel
theorem dX11_edition_121 : decode cX11_edition 121 = .ok (.invokestatic 202, 3) := by decide +kernel
theorem dX11_edition_124 : decode cX11_edition 124 = .ok (.iload_n 2, 1) := by decide +kernel
theorem dX11_edition_125 : decode cX11_edition 125 = .ok (.ifCond .ne 24, 3) := by decide +kernel
theorem dX11_edition_128 : decode cX11_edition 128 = .ok (.aload 5, 2) := by decide +kernel
theorem dX11_edition_130 : decode cX11_edition 130 = .ok (.getfield 192, 3) := by decide +kernel
theorem dX11_edition_133 : decode cX11_edition 133 = .ok (.ifCond .eq 16, 3) := by decide +kernel
theorem dX11_edition_136 : decode cX11_edition 136 = .ok (.aload_n 0, 1) := by decide +kernel
theorem dX11_edition_137 : decode cX11_edition 137 = .ok (.aload 5, 2) := by decide +kernel
theorem dX11_edition_139 : decode cX11_edition 139 = .ok (.aload 7, 2) := by decide +kernel
theorem dX11_edition_141 : decode cX11_edition 141 = .ok (.getfield 185, 3) := by decide +kernel
theorem dX11_edition_144 : decode cX11_edition 144 = .ok (.iconst 1, 1) := by decide +kernel
theorem dX11_edition_145 : decode cX11_edition 145 = .ok (.isub, 1) := by decide +kernel
theorem dX11_edition_146 : decode cX11_edition 146 = .ok (.invokevirtual 206, 3) := by decide +kernel
theorem dX11_edition_149 : decode cX11_edition 149 = .ok (.aload 7, 2) := by decide +kernel
theorem dX11_edition_151 : decode cX11_edition 151 = .ok (.getfield 210, 3) := by decide +kernel
theorem dX11_edition_154 : decode cX11_edition 154 = .ok (.ireturn, 1) := by decide +kernel
def F_X11_edition_95 (d : Nat) (v0 : Option Nm) (v2 : Int32) (v3 : Int32) (v4 : Int32) (v5 : Option Nm) (h : MH) (u : Nat) (Q : Int32 → MH → Prop) : Prop :=
  rc h v0 10 ∧ iI d u_X11_hasRoomForChange [jR v0, jR v5, jI v2] h u fun x1 h u =>
  if x1 = 0 then
    Q (-4) h
  else
    rc h v5 3 ∧ iR d u_X3_addEdition [jR v5] h u fun x2 h u =>
    iV d u_X11_change [jR x2, jI v2, jI v3, jI v4] h u fun h u =>
    if v2 = 0 then
      gI h v5 3 1 fun x5 =>
      if x5 = 0 then
        gI h x2 2 0 fun x6 =>
        Q x6 h
      else
        gI h x2 2 4 fun x7 =>
        rc h v0 10 ∧ iV d u_X11_addConstant [jR v0, jR v5, jI (x7 - 1)] h u fun h u =>
        gI h x2 2 0 fun x9 =>
        Q x9 h
    else
      gI h x2 2 0 fun x4 =>
      Q x4 h
set_option maxRecDepth 20000 in
theorem E_X11_edition_95 {d : Nat} {v0 : Option Nm} {v2 : Int32} {v3 : Int32} {v4 : Int32} {v5 : Option Nm} {h : MH} {u : Nat} {Q : Int32 → MH → Prop} (H : F_X11_edition_95 d v0 v2 v3 v4 v5 h u Q) : T u_X11_edition (d + 1) 95 [some (jR v0), none, some (jI v2), some (jI v3), some (jI v4), some (jR v5), none, none] [] h u (qI Q) := by
  unfold F_X11_edition_95 at H
  refine T_aload_n (pc := 95) dX11_edition_95 rfl rfl ?_
  refine T_aload (pc := 96) dX11_edition_96 rfl ?_
  refine T_iload_n (pc := 98) dX11_edition_98 rfl rfl ?_
  obtain ⟨H0, H⟩ := H
  refine T_iV (pc := 99) (ci := 10) (av := [jR v5, jI v2]) (rest := []) (o := v0) dX11_edition_99 mf_X11_hasRoomForChange c_2_237 c_2_239 pr_X11_hasRoomForChange rfl rfl (Nat.le_of_ble_eq_true rfl) rfl H0 (iI_k (iI_mono (fun x1 h u H => ?_) H))
  refine T_if_ne (pc := 102) (tgt := 108) dX11_edition_102 (by decide) (fun hc => ?_) (fun hc => ?_)
  · rw [if_neg hc] at H
    refine T_aload (pc := 108) dX11_edition_108 rfl ?_
    obtain ⟨H0, H⟩ := H
    refine T_iV (pc := 110) (ci := 3) (av := []) (rest := []) (o := v5) dX11_edition_110 mf_X3_addEdition c_3_9 c_3_10 c_3_11 rfl rfl (Nat.le_of_ble_eq_true rfl) rfl H0 (iR_k (iR_mono (fun x2 h u H => ?_) H))
    refine T_astore (pc := 113) (ls2 := [some (jR v0), none, some (jI v2), some (jI v3), some (jI v4), some (jR v5), none, some (jR x2)]) dX11_edition_113 (Nat.le_of_ble_eq_true rfl) rfl ?_
    refine T_aload (pc := 115) dX11_edition_115 rfl ?_
    refine T_iload_n (pc := 117) dX11_edition_117 rfl rfl ?_
    refine T_iload_n (pc := 118) dX11_edition_118 rfl rfl ?_
    refine T_iload (pc := 119) dX11_edition_119 rfl ?_
    refine T_invS (pc := 121) (av := [jR x2, jI v2, jI v3, jI v4]) (rest := []) dX11_edition_121 mf_X11_change c_3_25 c_3_26 rfl (Nat.le_of_ble_eq_true rfl) rfl (iV_k (iV_mono (fun h u H => ?_) H))
    refine T_iload_n (pc := 124) dX11_edition_124 rfl rfl ?_
    refine T_if_ne (pc := 125) (tgt := 149) dX11_edition_125 (by decide) (fun hc => ?_) (fun hc => ?_)
    · rw [if_neg hc] at H
      refine T_aload (pc := 149) dX11_edition_149 rfl ?_
      refine T_gI (pc := 151) fa_X11_210 dX11_edition_151 (gI_mono (fun x4 H => ?_) H)
      exact T_ireturn (pc := 154) rfl rfl dX11_edition_154 H
    · rw [if_pos hc] at H
      refine T_aload (pc := 128) dX11_edition_128 rfl ?_
      refine T_gI (pc := 130) fa_X11_192 dX11_edition_130 (gI_mono (fun x5 H => ?_) H)
      refine T_if_eq (pc := 133) (tgt := 149) dX11_edition_133 (by decide) (fun hc => ?_) (fun hc => ?_)
      · rw [if_pos hc] at H
        refine T_aload (pc := 149) dX11_edition_149 rfl ?_
        refine T_gI (pc := 151) fa_X11_210 dX11_edition_151 (gI_mono (fun x6 H => ?_) H)
        exact T_ireturn (pc := 154) rfl rfl dX11_edition_154 H
      · rw [if_neg hc] at H
        refine T_aload_n (pc := 136) dX11_edition_136 rfl rfl ?_
        refine T_aload (pc := 137) dX11_edition_137 rfl ?_
        refine T_aload (pc := 139) dX11_edition_139 rfl ?_
        refine T_gI (pc := 141) fa_X11_185 dX11_edition_141 (gI_mono (fun x7 H => ?_) H)
        refine T_iconst (pc := 144) (v := 1) dX11_edition_144 (by decide) ?_
        refine T_isub (pc := 145) dX11_edition_145 ?_
        obtain ⟨H0, H⟩ := H
        refine T_iV (pc := 146) (ci := 10) (av := [jR v5, jI (x7 - 1)]) (rest := []) (o := v0) dX11_edition_146 mf_X11_addConstant c_3_44 c_3_46 pr_X11_addConstant rfl rfl (Nat.le_of_ble_eq_true rfl) rfl H0 (iV_k (iV_mono (fun h u H => ?_) H))
        refine T_aload (pc := 149) dX11_edition_149 rfl ?_
        refine T_gI (pc := 151) fa_X11_210 dX11_edition_151 (gI_mono (fun x9 H => ?_) H)
        exact T_ireturn (pc := 154) rfl rfl dX11_edition_154 H
  · rw [if_pos hc] at H
    refine T_bipush (pc := 105) (v := (-4)) dX11_edition_105 (by decide) ?_
    exact T_ireturn (pc := 107) rfl rfl dX11_edition_107 H
def F_X11_edition_89 (d : Nat) (v0 : Option Nm) (v2 : Int32) (v3 : Int32) (v4 : Int32) (v5 : Option Nm) (s0 : Int32) (s1 : Int32) (h : MH) (u : Nat) (Q : Int32 → MH → Prop) : Prop :=
  if s0 = s1 then
    Q (-3) h
  else
    F_X11_edition_95 d v0 v2 v3 v4 v5 h u Q
set_option maxRecDepth 20000 in
theorem E_X11_edition_89 {d : Nat} {v0 : Option Nm} {v2 : Int32} {v3 : Int32} {v4 : Int32} {v5 : Option Nm} {s0 : Int32} {s1 : Int32} {h : MH} {u : Nat} {Q : Int32 → MH → Prop} (H : F_X11_edition_89 d v0 v2 v3 v4 v5 s0 s1 h u Q) : T u_X11_edition (d + 1) 89 [some (jR v0), none, some (jI v2), some (jI v3), some (jI v4), some (jR v5), none, none] [jI s1, jI s0] h u (qI Q) := by
  unfold F_X11_edition_89 at H
  refine T_icmp_ne (pc := 89) (tgt := 95) dX11_edition_89 (by decide) (fun hc => ?_) (fun hc => ?_)
  · rw [if_neg hc] at H
    exact T.forget (E_X11_edition_95 H) ⟨rfl, rfl, rfl, rfl, rfl, trivial⟩
  · rw [if_pos hc] at H
    refine T_bipush (pc := 92) (v := (-3)) dX11_edition_92 (by decide) ?_
    exact T_ireturn (pc := 94) rfl rfl dX11_edition_94 H
def F_X11_edition_71 (d : Nat) (v0 : Option Nm) (v2 : Int32) (v3 : Int32) (v4 : Int32) (v5 : Option Nm) (s0 : Int32) (h : MH) (u : Nat) (Q : Int32 → MH → Prop) : Prop :=
  if v2 = 3 then
    F_X11_edition_95 d v0 v2 v3 v4 v5 h u Q
  else
    if v2 = 0 then
      F_X11_edition_89 d v0 v2 v3 v4 v5 s0 1 h u Q
    else
      F_X11_edition_89 d v0 v2 v3 v4 v5 s0 0 h u Q
set_option maxRecDepth 20000 in
theorem E_X11_edition_71 {d : Nat} {v0 : Option Nm} {v2 : Int32} {v3 : Int32} {v4 : Int32} {v5 : Option Nm} {s0 : Int32} {h : MH} {u : Nat} {Q : Int32 → MH → Prop} (H : F_X11_edition_71 d v0 v2 v3 v4 v5 s0 h u Q) : T u_X11_edition (d + 1) 71 [some (jR v0), none, some (jI v2), some (jI v3), some (jI v4), some (jR v5), none, none] [jI s0] h u (qI Q) := by
  unfold F_X11_edition_71 at H
  refine T_istore (pc := 71) (ls2 := [some (jR v0), none, some (jI v2), some (jI v3), some (jI v4), some (jR v5), some (jI s0), none]) dX11_edition_71 (Nat.le_of_ble_eq_true rfl) rfl ?_
  refine T_iload_n (pc := 73) dX11_edition_73 rfl rfl ?_
  refine T_iconst (pc := 74) (v := 3) dX11_edition_74 (by decide) ?_
  refine T_icmp_eq (pc := 75) (tgt := 95) dX11_edition_75 (by decide) (fun hc => ?_) (fun hc => ?_)
  · rw [if_pos hc] at H
    exact T.forget (E_X11_edition_95 H) ⟨rfl, rfl, rfl, rfl, rfl, trivial⟩
  · rw [if_neg hc] at H
    refine T_iload (pc := 78) dX11_edition_78 rfl ?_
    refine T_iload_n (pc := 80) dX11_edition_80 rfl rfl ?_
    refine T_if_ne (pc := 81) (tgt := 88) dX11_edition_81 (by decide) (fun hc => ?_) (fun hc => ?_)
    · rw [if_neg hc] at H
      refine T_iconst (pc := 88) (v := 0) dX11_edition_88 (by decide) ?_
      exact T.forget (E_X11_edition_89 H) ⟨rfl, rfl, rfl, rfl, rfl, trivial⟩
    · rw [if_pos hc] at H
      refine T_iconst (pc := 84) (v := 1) dX11_edition_84 (by decide) ?_
      refine T_goto (pc := 85) (tgt := 89) dX11_edition_85 (by decide) ?_
      exact T.forget (E_X11_edition_89 H) ⟨rfl, rfl, rfl, rfl, rfl, trivial⟩
def F_X11_edition_53 (d : Nat) (v0 : Option Nm) (v2 : Int32) (v3 : Int32) (v4 : Int32) (v5 : Option Nm) (h : MH) (u : Nat) (Q : Int32 → MH → Prop) : Prop :=
  rc h v5 3 ∧ iR d u_X3_newest [jR v5] h u fun x1 h u =>
  rc h x1 2 ∧ iI d u_X2_find [jR x1, jI v3] h u fun x2 h u =>
  if x2 = (-1) then
    F_X11_edition_71 d v0 v2 v3 v4 v5 0 h u Q
  else
    F_X11_edition_71 d v0 v2 v3 v4 v5 1 h u Q
set_option maxRecDepth 20000 in
theorem E_X11_edition_53 {d : Nat} {v0 : Option Nm} {v2 : Int32} {v3 : Int32} {v4 : Int32} {v5 : Option Nm} {h : MH} {u : Nat} {Q : Int32 → MH → Prop} (H : F_X11_edition_53 d v0 v2 v3 v4 v5 h u Q) : T u_X11_edition (d + 1) 53 [some (jR v0), none, some (jI v2), some (jI v3), some (jI v4), some (jR v5), none, none] [] h u (qI Q) := by
  unfold F_X11_edition_53 at H
  refine T_aload (pc := 53) dX11_edition_53 rfl ?_
  obtain ⟨H0, H⟩ := H
  refine T_iV (pc := 55) (ci := 3) (av := []) (rest := []) (o := v5) dX11_edition_55 mf_X3_newest c_2_213 c_2_214 c_2_215 rfl rfl (Nat.le_of_ble_eq_true rfl) rfl H0 (iR_k (iR_mono (fun x1 h u H => ?_) H))
  refine T_iload_n (pc := 58) dX11_edition_58 rfl rfl ?_
  obtain ⟨H0, H⟩ := H
  refine T_iV (pc := 59) (ci := 2) (av := [jI v3]) (rest := []) (o := x1) dX11_edition_59 mf_X2_find c_2_217 c_2_218 c_2_219 rfl rfl (Nat.le_of_ble_eq_true rfl) rfl H0 (iI_k (iI_mono (fun x2 h u H => ?_) H))
  refine T_iconst (pc := 62) (v := (-1)) dX11_edition_62 (by decide) ?_
  refine T_icmp_eq (pc := 63) (tgt := 70) dX11_edition_63 (by decide) (fun hc => ?_) (fun hc => ?_)
  · rw [if_pos hc] at H
    refine T_iconst (pc := 70) (v := 0) dX11_edition_70 (by decide) ?_
    exact T.forget (E_X11_edition_71 H) ⟨rfl, rfl, rfl, rfl, rfl, trivial⟩
  · rw [if_neg hc] at H
    refine T_iconst (pc := 66) (v := 1) dX11_edition_66 (by decide) ?_
    refine T_goto (pc := 67) (tgt := 71) dX11_edition_67 (by decide) ?_
    exact T.forget (E_X11_edition_71 H) ⟨rfl, rfl, rfl, rfl, rfl, trivial⟩
def F_X11_edition (d : Nat) (v0 : Option Nm) (v1 : Int32) (v2 : Int32) (v3 : Int32) (v4 : Int32) (h : MH) (u : Nat) (Q : Int32 → MH → Prop) : Prop :=
  rc h v0 10 ∧ iR d u_X11_findKind [jR v0, jI v1] h u fun x1 h u =>
  nl x1 (
    Q (-1) h) (
    iI d u_X11_isChange [jR x1, jI v2, jI v3, jI v4] h u fun x2 h u =>
    if x2 = 0 then
      Q (-2) h
    else
      gI h x1 3 5 fun x3 =>
      if x3 = 0 then
        Q (-3) h
      else
        if v2 = 2 then
          gI h x1 3 1 fun x4 =>
          if x4 = 0 then
            F_X11_edition_53 d v0 v2 v3 v4 x1 h u Q
          else
            Q (-3) h
        else
          F_X11_edition_53 d v0 v2 v3 v4 x1 h u Q)
set_option maxRecDepth 20000 in
theorem E_X11_edition {d : Nat} {v0 : Option Nm} {v1 : Int32} {v2 : Int32} {v3 : Int32} {v4 : Int32} {h : MH} {u : Nat} {Q : Int32 → MH → Prop} (H : F_X11_edition d v0 v1 v2 v3 v4 h u Q) : T u_X11_edition (d + 1) 0 [some (jR v0), some (jI v1), some (jI v2), some (jI v3), some (jI v4), none, none, none] [] h u (qI Q) := by
  unfold F_X11_edition at H
  refine T_aload_n (pc := 0) dX11_edition_0 rfl rfl ?_
  refine T_iload_n (pc := 1) dX11_edition_1 rfl rfl ?_
  obtain ⟨H0, H⟩ := H
  refine T_iV (pc := 2) (ci := 10) (av := [jI v1]) (rest := []) (o := v0) dX11_edition_2 mf_X11_findKind c_2_199 c_2_201 pr_X11_findKind rfl rfl (Nat.le_of_ble_eq_true rfl) rfl H0 (iR_k (iR_mono (fun x1 h u H => ?_) H))
  refine T_astore (pc := 5) (ls2 := [some (jR v0), some (jI v1), some (jI v2), some (jI v3), some (jI v4), some (jR x1), none, none]) dX11_edition_5 (Nat.le_of_ble_eq_true rfl) rfl ?_
  refine T_aload (pc := 7) dX11_edition_7 rfl ?_
  refine T_ifnonnull (pc := 9) (tgt := 14) dX11_edition_9 (by decide) (fun ho => ?_) (fun n ho => ?_)
  · replace H := nl_n ho H
    refine T_iconst (pc := 12) (v := (-1)) dX11_edition_12 (by decide) ?_
    exact T_ireturn (pc := 13) rfl rfl dX11_edition_13 H
  · replace H := nl_s ho H
    refine T_aload (pc := 14) dX11_edition_14 rfl ?_
    refine T_iload_n (pc := 16) dX11_edition_16 rfl rfl ?_
    refine T_iload_n (pc := 17) dX11_edition_17 rfl rfl ?_
    refine T_iload (pc := 18) dX11_edition_18 rfl ?_
    refine T_invS (pc := 20) (av := [jR x1, jI v2, jI v3, jI v4]) (rest := []) dX11_edition_20 mf_X11_isChange c_2_234 c_2_235 rfl (Nat.le_of_ble_eq_true rfl) rfl (iI_k (iI_mono (fun x2 h u H => ?_) H))
    refine T_if_ne (pc := 23) (tgt := 29) dX11_edition_23 (by decide) (fun hc => ?_) (fun hc => ?_)
    · rw [if_neg hc] at H
      refine T_aload (pc := 29) dX11_edition_29 rfl ?_
      refine T_gI (pc := 31) fa_X11_169 dX11_edition_31 (gI_mono (fun x3 H => ?_) H)
      refine T_if_eq (pc := 34) (tgt := 50) dX11_edition_34 (by decide) (fun hc => ?_) (fun hc => ?_)
      · rw [if_pos hc] at H
        refine T_bipush (pc := 50) (v := (-3)) dX11_edition_50 (by decide) ?_
        exact T_ireturn (pc := 52) rfl rfl dX11_edition_52 H
      · rw [if_neg hc] at H
        refine T_iload_n (pc := 37) dX11_edition_37 rfl rfl ?_
        refine T_iconst (pc := 38) (v := 2) dX11_edition_38 (by decide) ?_
        refine T_icmp_ne (pc := 39) (tgt := 53) dX11_edition_39 (by decide) (fun hc => ?_) (fun hc => ?_)
        · rw [if_neg hc] at H
          exact T.forget (E_X11_edition_53 H) ⟨rfl, rfl, rfl, rfl, rfl, trivial⟩
        · rw [if_pos hc] at H
          refine T_aload (pc := 42) dX11_edition_42 rfl ?_
          refine T_gI (pc := 44) fa_X11_192 dX11_edition_44 (gI_mono (fun x4 H => ?_) H)
          refine T_if_eq (pc := 47) (tgt := 53) dX11_edition_47 (by decide) (fun hc => ?_) (fun hc => ?_)
          · rw [if_pos hc] at H
            exact T.forget (E_X11_edition_53 H) ⟨rfl, rfl, rfl, rfl, rfl, trivial⟩
          · rw [if_neg hc] at H
            refine T_bipush (pc := 50) (v := (-3)) dX11_edition_50 (by decide) ?_
            exact T_ireturn (pc := 52) rfl rfl dX11_edition_52 H
    · rw [if_pos hc] at H
      refine T_bipush (pc := 26) (v := (-2)) dX11_edition_26 (by decide) ?_
      exact T_ireturn (pc := 28) rfl rfl dX11_edition_28 H
theorem I_X11_edition {d : Nat} {v0 : Option Nm} {v1 : Int32} {v2 : Int32} {v3 : Int32} {v4 : Int32} {h : MH} {u : Nat} {K : Int32 → MH → Nat → Prop} (u1 : Nat) (hu : u1 ≤ u) (H : F_X11_edition d v0 v1 v2 v3 v4 h u1 (fun x h2 => K x h2 (u - u1))) : iI (d + 1) u_X11_edition [jR v0, jI v1, jI v2, jI v3, jI v4] h u K := inv.of u1 hu (Ct.of (by decide +kernel) rfl (Nat.le_of_ble_eq_true rfl) rfl (E_X11_edition H))
theorem dX11_family_0 : decode cX11_family 0 = .ok (.iconst 1, 1) := by decide +kernel
theorem dX11_family_1 : decode cX11_family 1 = .ok (.aload_n 0, 1) := by decide +kernel
theorem dX11_family_2 : decode cX11_family 2 = .ok (.getfield 211, 3) := by decide +kernel
theorem dX11_family_5 : decode cX11_family 5 = .ok (.ishl, 1) := by decide +kernel
theorem dX11_family_6 : decode cX11_family 6 = .ok (.iconst 1, 1) := by decide +kernel
theorem dX11_family_7 : decode cX11_family 7 = .ok (.isub, 1) := by decide +kernel
theorem dX11_family_8 : decode cX11_family 8 = .ok (.istore_n 3, 1) := by decide +kernel
theorem dX11_family_9 : decode cX11_family 9 = .ok (.iload_n 1, 1) := by decide +kernel
theorem dX11_family_10 : decode cX11_family 10 = .ok (.iload_n 3, 1) := by decide +kernel
theorem dX11_family_11 : decode cX11_family 11 = .ok (.iconst (-1), 1) := by decide +kernel
theorem dX11_family_12 : decode cX11_family 12 = .ok (.ixor, 1) := by decide +kernel
theorem dX11_family_13 : decode cX11_family 13 = .ok (.iand, 1) := by decide +kernel
theorem dX11_family_14 : decode cX11_family 14 = .ok (.ifCond .eq 6, 3) := by decide +kernel
theorem dX11_family_17 : decode cX11_family 17 = .ok (.bipush (-2), 2) := by decide +kernel
theorem dX11_family_19 : decode cX11_family 19 = .ok (.ireturn, 1) := by decide +kernel
theorem dX11_family_20 : decode cX11_family 20 = .ok (.aload_n 0, 1) := by decide +kernel
theorem dX11_family_21 : decode cX11_family 21 = .ok (.getfield 214, 3) := by decide +kernel
theorem dX11_family_24 : decode cX11_family 24 = .ok (.bipush 8, 2) := by decide +kernel
theorem dX11_family_26 : decode cX11_family 26 = .ok (.if_icmp .lt 6, 3) := by decide +kernel
theorem dX11_family_29 : decode cX11_family 29 = .ok (.bipush (-4), 2) := by decide +kernel
theorem dX11_family_31 : decode cX11_family 31 = .ok (.ireturn, 1) := by decide +kernel
theorem dX11_family_32 : decode cX11_family 32 = .ok (.aload_n 0, 1) := by decide +kernel
theorem dX11_family_33 : decode cX11_family 33 = .ok (.getfield 54, 3) := by decide +kernel
theorem dX11_family_36 : decode cX11_family 36 = .ok (.aload_n 0, 1) := by decide +kernel
theorem dX11_family_37 : decode cX11_family 37 = .ok (.getfield 214, 3) := by decide +kernel
theorem dX11_family_40 : decode cX11_family 40 = .ok (.iload_n 1, 1) := by decide +kernel
theorem dX11_family_41 : decode cX11_family 41 = .ok (.iastore, 1) := by decide +kernel
theorem dX11_family_42 : decode cX11_family 42 = .ok (.aload_n 0, 1) := by decide +kernel
theorem dX11_family_43 : decode cX11_family 43 = .ok (.getfield 58, 3) := by decide +kernel
theorem dX11_family_46 : decode cX11_family 46 = .ok (.aload_n 0, 1) := by decide +kernel
theorem dX11_family_47 : decode cX11_family 47 = .ok (.getfield 214, 3) := by decide +kernel
theorem dX11_family_50 : decode cX11_family 50 = .ok (.iload_n 2, 1) := by decide +kernel
theorem dX11_family_51 : decode cX11_family 51 = .ok (.bastore, 1) := by decide +kernel
theorem dX11_family_52 : decode cX11_family 52 = .ok (.aload_n 0, 1) := by decide +kernel
theorem dX11_family_53 : decode cX11_family 53 = .ok (.dup, 1) := by decide +kernel
theorem dX11_family_54 : decode cX11_family 54 = .ok (.getfield 214, 3) := by decide +kernel
theorem dX11_family_57 : decode cX11_family 57 = .ok (.iconst 1, 1) := by decide +kernel
theorem dX11_family_58 : decode cX11_family 58 = .ok (.iadd, 1) := by decide +kernel
theorem dX11_family_59 : decode cX11_family 59 = .ok (.putfield 214, 3) := by decide +kernel
theorem dX11_family_62 : decode cX11_family 62 = .ok (.aload_n 0, 1) := by decide +kernel
theorem dX11_family_63 : decode cX11_family 63 = .ok (.getfield 214, 3) := by decide +kernel
theorem dX11_family_66 : decode cX11_family 66 = .ok (.iconst 1, 1) := by decide +kernel
theorem dX11_family_67 : decode cX11_family 67 = .ok (.isub, 1) := by decide +kernel
theorem dX11_family_68 : decode cX11_family 68 = .ok (.ireturn, 1) := by decide +kernel
def F_X11_family (d : Nat) (v0 : Option Nm) (v1 : Int32) (v2 : Int32) (h : MH) (u : Nat) (Q : Int32 → MH → Prop) : Prop :=
  gI h v0 10 8 fun x1 =>
  nm (((1 : Int32) <<< (x1 &&& 31)) - 1) fun x2 =>
  if (v1 &&& (x2 ^^^ (-1))) = 0 then
    gI h v0 10 9 fun x3 =>
    if x3 < 8 then
      gR h v0 10 6 fun x4 =>
      gI h v0 10 9 fun x5 =>
      sV .int h x4 x5 (jI v1) fun h =>
      gR h v0 10 7 fun x6 =>
      gI h v0 10 9 fun x7 =>
      sV .boolean h x6 x7 (jI (vp_nar .boolean v2)) fun h =>
      gI h v0 10 9 fun x8 =>
      pV h v0 10 9 (jI (x8 + 1)) fun h =>
      gI h v0 10 9 fun x9 =>
      Q (x9 - 1) h
    else
      Q (-4) h
  else
    Q (-2) h
set_option maxRecDepth 20000 in
theorem E_X11_family {d : Nat} {v0 : Option Nm} {v1 : Int32} {v2 : Int32} {h : MH} {u : Nat} {Q : Int32 → MH → Prop} (H : F_X11_family d v0 v1 v2 h u Q) : T u_X11_family d 0 [some (jR v0), some (jI v1), some (jI v2), none] [] h u (qI Q) := by
  unfold F_X11_family at H
  refine T_iconst (pc := 0) (v := 1) dX11_family_0 (by decide) ?_
  refine T_aload_n (pc := 1) dX11_family_1 rfl rfl ?_
  refine T_gI (pc := 2) fa_X11_211 dX11_family_2 (gI_mono (fun x1 H => ?_) H)
  refine T_ishl (pc := 5) dX11_family_5 ?_
  refine T_iconst (pc := 6) (v := 1) dX11_family_6 (by decide) ?_
  refine T_isub (pc := 7) dX11_family_7 ?_
  refine T_istoreK (pc := 8) (i := 0) (I := .nop) (len := 1) (f := fun x2 => [some (jR v0), some (jI v1), some (jI v2), some (jI x2)]) (fun x2 k => T_istore_n (pc := 8) dX11_family_8 rfl (Nat.le_of_ble_eq_true rfl) rfl k) (nm_mono (fun x2 H => ?_) H)
  refine T_iload_n (pc := 9) dX11_family_9 rfl rfl ?_
  refine T_iload_n (pc := 10) dX11_family_10 rfl rfl ?_
  refine T_iconst (pc := 11) (v := (-1)) dX11_family_11 (by decide) ?_
  refine T_ixor (pc := 12) dX11_family_12 ?_
  refine T_iand (pc := 13) dX11_family_13 ?_
  refine T_if_eq (pc := 14) (tgt := 20) dX11_family_14 (by decide) (fun hc => ?_) (fun hc => ?_)
  · rw [if_pos hc] at H
    refine T_aload_n (pc := 20) dX11_family_20 rfl rfl ?_
    refine T_gI (pc := 21) fa_X11_214 dX11_family_21 (gI_mono (fun x3 H => ?_) H)
    refine T_bipush (pc := 24) (v := 8) dX11_family_24 (by decide) ?_
    refine T_icmp_lt (pc := 26) (tgt := 32) dX11_family_26 (by decide) (fun hc => ?_) (fun hc => ?_)
    · rw [if_pos hc] at H
      refine T_aload_n (pc := 32) dX11_family_32 rfl rfl ?_
      refine T_gR (pc := 33) fa_X11_54 dX11_family_33 (gR_mono (fun x4 H => ?_) H)
      refine T_aload_n (pc := 36) dX11_family_36 rfl rfl ?_
      refine T_gI (pc := 37) fa_X11_214 dX11_family_37 (gI_mono (fun x5 H => ?_) H)
      refine T_iload_n (pc := 40) dX11_family_40 rfl rfl ?_
      refine T_sI (pc := 41) dX11_family_41 (sV_mono (fun h H => ?_) H)
      refine T_aload_n (pc := 42) dX11_family_42 rfl rfl ?_
      refine T_gR (pc := 43) fa_X11_58 dX11_family_43 (gR_mono (fun x6 H => ?_) H)
      refine T_aload_n (pc := 46) dX11_family_46 rfl rfl ?_
      refine T_gI (pc := 47) fa_X11_214 dX11_family_47 (gI_mono (fun x7 H => ?_) H)
      refine T_iload_n (pc := 50) dX11_family_50 rfl rfl ?_
      refine T_sZ (pc := 51) dX11_family_51 (sV_mono (fun h H => ?_) H)
      refine T_aload_n (pc := 52) dX11_family_52 rfl rfl ?_
      refine T_dup (pc := 53) rfl dX11_family_53 ?_
      refine T_gI (pc := 54) fa_X11_214 dX11_family_54 (gI_mono (fun x8 H => ?_) H)
      refine T_iconst (pc := 57) (v := 1) dX11_family_57 (by decide) ?_
      refine T_iadd (pc := 58) dX11_family_58 ?_
      refine T_pV (pc := 59) fa_X11_214 dX11_family_59 trivial (pV_mono (fun h H => ?_) H)
      refine T_aload_n (pc := 62) dX11_family_62 rfl rfl ?_
      refine T_gI (pc := 63) fa_X11_214 dX11_family_63 (gI_mono (fun x9 H => ?_) H)
      refine T_iconst (pc := 66) (v := 1) dX11_family_66 (by decide) ?_
      refine T_isub (pc := 67) dX11_family_67 ?_
      exact T_ireturn (pc := 68) rfl rfl dX11_family_68 H
    · rw [if_neg hc] at H
      refine T_bipush (pc := 29) (v := (-4)) dX11_family_29 (by decide) ?_
      exact T_ireturn (pc := 31) rfl rfl dX11_family_31 H
  · rw [if_neg hc] at H
    refine T_bipush (pc := 17) (v := (-2)) dX11_family_17 (by decide) ?_
    exact T_ireturn (pc := 19) rfl rfl dX11_family_19 H
theorem I_X11_family {d : Nat} {v0 : Option Nm} {v1 : Int32} {v2 : Int32} {h : MH} {u : Nat} {K : Int32 → MH → Nat → Prop} (u1 : Nat) (hu : u1 ≤ u) (H : F_X11_family d v0 v1 v2 h u1 (fun x h2 => K x h2 (u - u1))) : iI d u_X11_family [jR v0, jI v1, jI v2] h u K := inv.of u1 hu (Ct.of (by decide +kernel) rfl (Nat.le_of_ble_eq_true rfl) rfl (E_X11_family H))
theorem dX11_info_0 : decode cX11_info 0 = .ok (.aload_n 0, 1) := by decide +kernel
theorem dX11_info_1 : decode cX11_info 1 = .ok (.iload_n 1, 1) := by decide +kernel
theorem dX11_info_2 : decode cX11_info 2 = .ok (.invokevirtual 155, 3) := by decide +kernel
theorem dX11_info_5 : decode cX11_info 5 = .ok (.astore_n 3, 1) := by decide +kernel
theorem dX11_info_6 : decode cX11_info 6 = .ok (.aload_n 3, 1) := by decide +kernel
theorem dX11_info_7 : decode cX11_info 7 = .ok (.ifnonnull 5, 3) := by decide +kernel
theorem dX11_info_10 : decode cX11_info 10 = .ok (.iconst (-1), 1) := by decide +kernel
theorem dX11_info_11 : decode cX11_info 11 = .ok (.ireturn, 1) := by decide +kernel
theorem dX11_info_12 : decode cX11_info 12 = .ok (.iload_n 2, 1) := by decide +kernel
theorem dX11_info_13 : decode cX11_info 13 = .ok (.tableswitch 72 0 4 #[35, 43, 51, 59, 67], 35) := by decide +kernel
theorem dX11_info_48 : decode cX11_info 48 = .ok (.aload_n 3, 1) := by decide +kernel
theorem dX11_info_49 : decode cX11_info 49 = .ok (.getfield 192, 3) := by decide +kernel
theorem dX11_info_52 : decode cX11_info 52 = .ok (.invokestatic 133, 3) := by decide +kernel
theorem dX11_info_55 : decode cX11_info 55 = .ok (.ireturn, 1) := by decide +kernel
theorem dX11_info_56 : decode cX11_info 56 = .ok (.aload_n 3, 1) := by decide +kernel
theorem dX11_info_57 : decode cX11_info 57 = .ok (.invokevirtual 165, 3) := by decide +kernel
theorem dX11_info_60 : decode cX11_info 60 = .ok (.getfield 185, 3) := by decide +kernel
theorem dX11_info_63 : decode cX11_info 63 = .ok (.ireturn, 1) := by decide +kernel
theorem dX11_info_64 : decode cX11_info 64 = .ok (.aload_n 3, 1) := by decide +kernel
theorem dX11_info_65 : decode cX11_info 65 = .ok (.invokevirtual 165, 3) := by decide +kernel
theorem dX11_info_68 : decode cX11_info 68 = .ok (.getfield 210, 3) := by decide +kernel
theorem dX11_info_71 : decode cX11_info 71 = .ok (.ireturn, 1) := by decide +kernel
theorem dX11_info_72 : decode cX11_info 72 = .ok (.aload_n 3, 1) := by decide +kernel
theorem dX11_info_73 : decode cX11_info 73 = .ok (.getfield 169, 3) := by decide +kernel
theorem dX11_info_76 : decode cX11_info 76 = .ok (.invokestatic 133, 3) := by decide +kernel
theorem dX11_info_79 : decode cX11_info 79 = .ok (.ireturn, 1) := by decide +kernel
theorem dX11_info_80 : decode cX11_info 80 = .ok (.aload_n 3, 1) := by decide +kernel
theorem dX11_info_81 : decode cX11_info 81 = .ok (.getfield 217, 3) := by decide +kernel
theorem dX11_info_84 : decode cX11_info 84 = .ok (.ireturn, 1) := by decide +kernel
theorem dX11_info_85 : decode cX11_info 85 = .ok (.bipush (-2), 2) := by decide +kernel
theorem dX11_info_87 : decode cX11_info 87 = .ok (.ireturn, 1) := by decide +kernel
def F_X11_info (d : Nat) (v0 : Option Nm) (v1 : Int32) (v2 : Int32) (h : MH) (u : Nat) (Q : Int32 → MH → Prop) : Prop :=
  rc h v0 10 ∧ iR d u_X11_findKind [jR v0, jI v1] h u fun x1 h u =>
  nl x1 (
    Q (-1) h) (
    if v2 = 0 then
      gI h x1 3 1 fun x2 =>
      iI d u_X11_oneIf [jI x2] h u fun x3 h u =>
      Q x3 h
    else if v2 = 1 then
      rc h x1 3 ∧ iR d u_X3_newest [jR x1] h u fun x4 h u =>
      gI h x4 2 4 fun x5 =>
      Q x5 h
    else if v2 = 2 then
      rc h x1 3 ∧ iR d u_X3_newest [jR x1] h u fun x6 h u =>
      gI h x6 2 0 fun x7 =>
      Q x7 h
    else if v2 = 3 then
      gI h x1 3 5 fun x8 =>
      iI d u_X11_oneIf [jI x8] h u fun x9 h u =>
      Q x9 h
    else if v2 = 4 then
      gI h x1 3 6 fun x10 =>
      Q x10 h
    else 
      Q (-2) h)
set_option maxRecDepth 20000 in
theorem E_X11_info {d : Nat} {v0 : Option Nm} {v1 : Int32} {v2 : Int32} {h : MH} {u : Nat} {Q : Int32 → MH → Prop} (H : F_X11_info d v0 v1 v2 h u Q) : T u_X11_info (d + 1) 0 [some (jR v0), some (jI v1), some (jI v2), none] [] h u (qI Q) := by
  unfold F_X11_info at H
  refine T_aload_n (pc := 0) dX11_info_0 rfl rfl ?_
  refine T_iload_n (pc := 1) dX11_info_1 rfl rfl ?_
  obtain ⟨H0, H⟩ := H
  refine T_iV (pc := 2) (ci := 10) (av := [jI v1]) (rest := []) (o := v0) dX11_info_2 mf_X11_findKind c_2_199 c_2_201 pr_X11_findKind rfl rfl (Nat.le_of_ble_eq_true rfl) rfl H0 (iR_k (iR_mono (fun x1 h u H => ?_) H))
  refine T_astore_n (pc := 5) (ls2 := [some (jR v0), some (jI v1), some (jI v2), some (jR x1)]) dX11_info_5 rfl (Nat.le_of_ble_eq_true rfl) rfl ?_
  refine T_aload_n (pc := 6) dX11_info_6 rfl rfl ?_
  refine T_ifnonnull (pc := 7) (tgt := 12) dX11_info_7 (by decide) (fun ho => ?_) (fun n ho => ?_)
  · replace H := nl_n ho H
    refine T_iconst (pc := 10) (v := (-1)) dX11_info_10 (by decide) ?_
    exact T_ireturn (pc := 11) rfl rfl dX11_info_11 H
  · replace H := nl_s ho H
    refine T_iload_n (pc := 12) dX11_info_12 rfl rfl ?_
    by_cases h0 : v2 = 0
    · rw [if_pos h0] at H
      refine T_tableIn (pc := 13) (off := 35) (tgt := 48) dX11_info_13 (by rw [h0]; decide) (by rw [h0]; decide) (by rw [h0]; rfl) (by decide) ?_
      refine T_aload_n (pc := 48) dX11_info_48 rfl rfl ?_
      refine T_gI (pc := 49) fa_X11_192 dX11_info_49 (gI_mono (fun x2 H => ?_) H)
      refine T_invS (pc := 52) (av := [jI x2]) (rest := []) dX11_info_52 mf_X11_oneIf c_2_83 c_2_84 rfl (Nat.le_of_ble_eq_true rfl) rfl (iI_k (iI_mono (fun x3 h u H => ?_) H))
      exact T_ireturn (pc := 55) rfl rfl dX11_info_55 H
    rw [if_neg h0] at H
    by_cases h1 : v2 = 1
    · rw [if_pos h1] at H
      refine T_tableIn (pc := 13) (off := 43) (tgt := 56) dX11_info_13 (by rw [h1]; decide) (by rw [h1]; decide) (by rw [h1]; rfl) (by decide) ?_
      refine T_aload_n (pc := 56) dX11_info_56 rfl rfl ?_
      obtain ⟨H0, H⟩ := H
      refine T_iV (pc := 57) (ci := 3) (av := []) (rest := []) (o := x1) dX11_info_57 mf_X3_newest c_2_213 c_2_214 c_2_215 rfl rfl (Nat.le_of_ble_eq_true rfl) rfl H0 (iR_k (iR_mono (fun x4 h u H => ?_) H))
      refine T_gI (pc := 60) fa_X11_185 dX11_info_60 (gI_mono (fun x5 H => ?_) H)
      exact T_ireturn (pc := 63) rfl rfl dX11_info_63 H
    rw [if_neg h1] at H
    by_cases h2 : v2 = 2
    · rw [if_pos h2] at H
      refine T_tableIn (pc := 13) (off := 51) (tgt := 64) dX11_info_13 (by rw [h2]; decide) (by rw [h2]; decide) (by rw [h2]; rfl) (by decide) ?_
      refine T_aload_n (pc := 64) dX11_info_64 rfl rfl ?_
      obtain ⟨H0, H⟩ := H
      refine T_iV (pc := 65) (ci := 3) (av := []) (rest := []) (o := x1) dX11_info_65 mf_X3_newest c_2_213 c_2_214 c_2_215 rfl rfl (Nat.le_of_ble_eq_true rfl) rfl H0 (iR_k (iR_mono (fun x6 h u H => ?_) H))
      refine T_gI (pc := 68) fa_X11_210 dX11_info_68 (gI_mono (fun x7 H => ?_) H)
      exact T_ireturn (pc := 71) rfl rfl dX11_info_71 H
    rw [if_neg h2] at H
    by_cases h3 : v2 = 3
    · rw [if_pos h3] at H
      refine T_tableIn (pc := 13) (off := 59) (tgt := 72) dX11_info_13 (by rw [h3]; decide) (by rw [h3]; decide) (by rw [h3]; rfl) (by decide) ?_
      refine T_aload_n (pc := 72) dX11_info_72 rfl rfl ?_
      refine T_gI (pc := 73) fa_X11_169 dX11_info_73 (gI_mono (fun x8 H => ?_) H)
      refine T_invS (pc := 76) (av := [jI x8]) (rest := []) dX11_info_76 mf_X11_oneIf c_2_83 c_2_84 rfl (Nat.le_of_ble_eq_true rfl) rfl (iI_k (iI_mono (fun x9 h u H => ?_) H))
      exact T_ireturn (pc := 79) rfl rfl dX11_info_79 H
    rw [if_neg h3] at H
    by_cases h4 : v2 = 4
    · rw [if_pos h4] at H
      refine T_tableIn (pc := 13) (off := 67) (tgt := 80) dX11_info_13 (by rw [h4]; decide) (by rw [h4]; decide) (by rw [h4]; rfl) (by decide) ?_
      refine T_aload_n (pc := 80) dX11_info_80 rfl rfl ?_
      refine T_gI (pc := 81) fa_X11_217 dX11_info_81 (gI_mono (fun x10 H => ?_) H)
      exact T_ireturn (pc := 84) rfl rfl dX11_info_84 H
    rw [if_neg h4] at H
    have e0 : (v2 : Int32).toInt ≠ 0 := fun q => h0 (Int32.toInt_inj.mp (q.trans (by decide)))
    have e1 : (v2 : Int32).toInt ≠ 1 := fun q => h1 (Int32.toInt_inj.mp (q.trans (by decide)))
    have e2 : (v2 : Int32).toInt ≠ 2 := fun q => h2 (Int32.toInt_inj.mp (q.trans (by decide)))
    have e3 : (v2 : Int32).toInt ≠ 3 := fun q => h3 (Int32.toInt_inj.mp (q.trans (by decide)))
    have e4 : (v2 : Int32).toInt ≠ 4 := fun q => h4 (Int32.toInt_inj.mp (q.trans (by decide)))
    refine T_tableOut (pc := 13) (tgt := 85) dX11_info_13 (by omega) (by decide) ?_
    refine T_bipush (pc := 85) (v := (-2)) dX11_info_85 (by decide) ?_
    exact T_ireturn (pc := 87) rfl rfl dX11_info_87 H
theorem I_X11_info {d : Nat} {v0 : Option Nm} {v1 : Int32} {v2 : Int32} {h : MH} {u : Nat} {K : Int32 → MH → Nat → Prop} (u1 : Nat) (hu : u1 ≤ u) (H : F_X11_info d v0 v1 v2 h u1 (fun x h2 => K x h2 (u - u1))) : iI (d + 1) u_X11_info [jR v0, jI v1, jI v2] h u K := inv.of u1 hu (Ct.of (by decide +kernel) rfl (Nat.le_of_ble_eq_true rfl) rfl (E_X11_info H))
theorem dX11_give_0 : decode cX11_give 0 = .ok (.iload_n 1, 1) := by decide +kernel
theorem dX11_give_1 : decode cX11_give 1 = .ok (.invokestatic 220, 3) := by decide +kernel
theorem dX11_give_4 : decode cX11_give 4 = .ok (.ifCond .eq 10, 3) := by decide +kernel
theorem dX11_give_7 : decode cX11_give 7 = .ok (.iload_n 2, 1) := by decide +kernel
theorem dX11_give_8 : decode cX11_give 8 = .ok (.invokestatic 90, 3) := by decide +kernel
theorem dX11_give_11 : decode cX11_give 11 = .ok (.ifCond .ne 6, 3) := by decide +kernel
theorem dX11_give_14 : decode cX11_give 14 = .ok (.bipush (-2), 2) := by decide +kernel
theorem dX11_give_16 : decode cX11_give 16 = .ok (.ireturn, 1) := by decide +kernel
theorem dX11_give_17 : decode cX11_give 17 = .ok (.aload_n 0, 1) := by decide +kernel
theorem dX11_give_18 : decode cX11_give 18 = .ok (.getfield 21, 3) := by decide +kernel
theorem dX11_give_21 : decode cX11_give 21 = .ok (.iload_n 1, 1) := by decide +kernel
theorem dX11_give_22 : decode cX11_give 22 = .ok (.iload_n 2, 1) := by decide +kernel
theorem dX11_give_23 : decode cX11_give 23 = .ok (.iload_n 2, 1) := by decide +kernel
theorem dX11_give_24 : decode cX11_give 24 = .ok (.lload_n 3, 1) := by decide +kernel
theorem dX11_give_25 : decode cX11_give 25 = .ok (.invokestatic 104, 3) := by decide +kernel
theorem dX11_give_28 : decode cX11_give 28 = .ok (.invokevirtual 223, 3) := by decide +kernel
theorem dX11_give_31 : decode cX11_give 31 = .ok (.iconst 1, 1) := by decide +kernel
theorem dX11_give_32 : decode cX11_give 32 = .ok (.ireturn, 1) := by decide +kernel
def F_X11_give (d : Nat) (v0 : Option Nm) (v1 : Int32) (v2 : Int32) (v3 : Int64) (h : MH) (u : Nat) (Q : Int32 → MH → Prop) : Prop :=
  iI d u_X11_isPlace [jI v1] h u fun x1 h u =>
  if x1 = 0 then
    Q (-2) h
  else
    iI d u_X4_isNumber [jI v2] h u fun x2 h u =>
    if x2 = 0 then
      Q (-2) h
    else
      gR h v0 10 1 fun x3 =>
      iL d u_X4_come [jI v2, jL v3] h u fun x4 h u =>
      rc h x3 8 ∧ iV d u_X9_place [jR x3, jI v1, jI v2, jL x4] h u fun h u =>
      Q 1 h
set_option maxRecDepth 20000 in
theorem E_X11_give {d : Nat} {v0 : Option Nm} {v1 : Int32} {v2 : Int32} {v3 : Int64} {h : MH} {u : Nat} {Q : Int32 → MH → Prop} (H : F_X11_give d v0 v1 v2 v3 h u Q) : T u_X11_give (d + 1) 0 [some (jR v0), some (jI v1), some (jI v2), some (jL v3), none] [] h u (qI Q) := by
  unfold F_X11_give at H
  refine T_iload_n (pc := 0) dX11_give_0 rfl rfl ?_
  refine T_invS (pc := 1) (av := [jI v1]) (rest := []) dX11_give_1 mf_X11_isPlace c_3_118 c_3_119 rfl (Nat.le_of_ble_eq_true rfl) rfl (iI_k (iI_mono (fun x1 h u H => ?_) H))
  refine T_if_eq (pc := 4) (tgt := 14) dX11_give_4 (by decide) (fun hc => ?_) (fun hc => ?_)
  · rw [if_pos hc] at H
    refine T_bipush (pc := 14) (v := (-2)) dX11_give_14 (by decide) ?_
    exact T_ireturn (pc := 16) rfl rfl dX11_give_16 H
  · rw [if_neg hc] at H
    refine T_iload_n (pc := 7) dX11_give_7 rfl rfl ?_
    refine T_invS (pc := 8) (av := [jI v2]) (rest := []) dX11_give_8 mf_X4_isNumber c_2_5 c_2_6 rfl (Nat.le_of_ble_eq_true rfl) rfl (iI_k (iI_mono (fun x2 h u H => ?_) H))
    refine T_if_ne (pc := 11) (tgt := 17) dX11_give_11 (by decide) (fun hc => ?_) (fun hc => ?_)
    · rw [if_neg hc] at H
      refine T_aload_n (pc := 17) dX11_give_17 rfl rfl ?_
      refine T_gR (pc := 18) fa_X11_21 dX11_give_18 (gR_mono (fun x3 H => ?_) H)
      refine T_iload_n (pc := 21) dX11_give_21 rfl rfl ?_
      refine T_iload_n (pc := 22) dX11_give_22 rfl rfl ?_
      refine T_iload_n (pc := 23) dX11_give_23 rfl rfl ?_
      refine T_lload_n (pc := 24) dX11_give_24 rfl rfl ?_
      refine T_invS (pc := 25) (av := [jI v2, jL v3]) (rest := [jI v2, jI v1, jR x3]) dX11_give_25 mf_X4_come c_2_18 c_2_19 rfl (Nat.le_of_ble_eq_true rfl) rfl (iL_k (iL_mono (fun x4 h u H => ?_) H))
      obtain ⟨H0, H⟩ := H
      refine T_iV (pc := 28) (ci := 8) (av := [jI v1, jI v2, jL x4]) (rest := []) (o := x3) dX11_give_28 mf_X9_place c_3_121 c_3_122 c_3_123 rfl rfl (Nat.le_of_ble_eq_true rfl) rfl H0 (iV_k (iV_mono (fun h u H => ?_) H))
      refine T_iconst (pc := 31) (v := 1) dX11_give_31 (by decide) ?_
      exact T_ireturn (pc := 32) rfl rfl dX11_give_32 H
    · rw [if_pos hc] at H
      refine T_bipush (pc := 14) (v := (-2)) dX11_give_14 (by decide) ?_
      exact T_ireturn (pc := 16) rfl rfl dX11_give_16 H
theorem I_X11_give {d : Nat} {v0 : Option Nm} {v1 : Int32} {v2 : Int32} {v3 : Int64} {h : MH} {u : Nat} {K : Int32 → MH → Nat → Prop} (u1 : Nat) (hu : u1 ≤ u) (H : F_X11_give d v0 v1 v2 v3 h u1 (fun x h2 => K x h2 (u - u1))) : iI (d + 1) u_X11_give [jR v0, jI v1, jI v2, jL v3] h u K := inv.of u1 hu (Ct.of (by decide +kernel) rfl (Nat.le_of_ble_eq_true rfl) rfl (E_X11_give H))
theorem dX11_hand_0 : decode cX11_hand 0 = .ok (.iload_n 3, 1) := by decide +kernel
theorem dX11_hand_1 : decode cX11_hand 1 = .ok (.ifCond .eq 23, 3) := by decide +kernel
theorem dX11_hand_4 : decode cX11_hand 4 = .ok (.aload_n 0, 1) := by decide +kernel
theorem dX11_hand_5 : decode cX11_hand 5 = .ok (.getfield 12, 3) := by decide +kernel
theorem dX11_hand_8 : decode cX11_hand 8 = .ok (.iload_n 2, 1) := by decide +kernel
theorem dX11_hand_9 : decode cX11_hand 9 = .ok (.i2l, 1) := by decide +kernel
theorem dX11_hand_10 : decode cX11_hand 10 = .ok (.invokevirtual 86, 3) := by decide +kernel
theorem dX11_hand_13 : decode cX11_hand 13 = .ok (.ifnull 7, 3) := by decide +kernel
theorem dX11_hand_16 : decode cX11_hand 16 = .ok (.iconst 1, 1) := by decide +kernel
theorem dX11_hand_17 : decode cX11_hand 17 = .ok (.goto 24, 3) := by decide +kernel
theorem dX11_hand_20 : decode cX11_hand 20 = .ok (.iconst 0, 1) := by decide +kernel
theorem dX11_hand_21 : decode cX11_hand 21 = .ok (.goto 20, 3) := by decide +kernel
theorem dX11_hand_24 : decode cX11_hand 24 = .ok (.aload_n 0, 1) := by decide +kernel
theorem dX11_hand_25 : decode cX11_hand 25 = .ok (.getfield 12, 3) := by decide +kernel
theorem dX11_hand_28 : decode cX11_hand 28 = .ok (.iload_n 2, 1) := by decide +kernel
theorem dX11_hand_29 : decode cX11_hand 29 = .ok (.i2l, 1) := by decide +kernel
theorem dX11_hand_30 : decode cX11_hand 30 = .ok (.invokevirtual 118, 3) := by decide +kernel
theorem dX11_hand_33 : decode cX11_hand 33 = .ok (.ifnull 7, 3) := by decide +kernel
theorem dX11_hand_36 : decode cX11_hand 36 = .ok (.iconst 1, 1) := by decide +kernel
theorem dX11_hand_37 : decode cX11_hand 37 = .ok (.goto 4, 3) := by decide +kernel
theorem dX11_hand_40 : decode cX11_hand 40 = .ok (.iconst 0, 1) := by decide +kernel
theorem dX11_hand_41 : decode cX11_hand 41 = .ok (.istore 4, 2) := by decide +kernel
theorem dX11_hand_43 : decode cX11_hand 43 = .ok (.iload_n 2, 1) := by decide +kernel
theorem dX11_hand_44 : decode cX11_hand 44 = .ok (.iconst (-1), 1) := by decide +kernel
theorem dX11_hand_45 : decode cX11_hand 45 = .ok (.if_icmp .eq 10, 3) := by decide +kernel
theorem dX11_hand_48 : decode cX11_hand 48 = .ok (.iload 4, 2) := by decide +kernel
theorem dX11_hand_50 : decode cX11_hand 50 = .ok (.ifCond .ne 5, 3) := by decide +kernel
theorem dX11_hand_53 : decode cX11_hand 53 = .ok (.iconst (-1), 1) := by decide +kernel
theorem dX11_hand_54 : decode cX11_hand 54 = .ok (.ireturn, 1) := by decide +kernel
theorem dX11_hand_55 : decode cX11_hand 55 = .ok (.iload_n 1, 1) := by decide +kernel
theorem dX11_hand_56 : decode cX11_hand 56 = .ok (.invokestatic 220, 3) := by decide +kernel
theorem dX11_hand_59 : decode cX11_hand 59 = .ok (.ifCond .ne 6, 3) := by decide +kernel
theorem dX11_hand_62 : decode cX11_hand 62 = .ok (.bipush (-2), 2) := by decide +kernel
theorem dX11_hand_64 : decode cX11_hand 64 = .ok (.ireturn, 1) := by decide +kernel
theorem dX11_hand_65 : decode cX11_hand 65 = .ok (.iload_n 2, 1) := by decide +kernel
theorem dX11_hand_66 : decode cX11_hand 66 = .ok (.iconst (-1), 1) := by decide +kernel
theorem dX11_hand_67 : decode cX11_hand 67 = .ok (.if_icmp .ne 14, 3) := by decide +kernel
theorem dX11_hand_70 : decode cX11_hand 70 = .ok (.aload_n 0, 1) := by decide +kernel
theorem dX11_hand_71 : decode cX11_hand 71 = .ok (.getfield 21, 3) := by decide +kernel
theorem dX11_hand_74 : decode cX11_hand 74 = .ok (.iload_n 1, 1) := by decide +kernel
theorem dX11_hand_75 : decode cX11_hand 75 = .ok (.invokevirtual 227, 3) := by decide +kernel
theorem dX11_hand_78 : decode cX11_hand 78 = .ok (.goto 24, 3) := by decide +kernel
theorem dX11_hand_81 : decode cX11_hand 81 = .ok (.aload_n 0, 1) := by decide +kernel
theorem dX11_hand_82 : decode cX11_hand 82 = .ok (.getfield 21, 3) := by decide +kernel
theorem dX11_hand_85 : decode cX11_hand 85 = .ok (.iload_n 1, 1) := by decide +kernel
theorem dX11_hand_86 : decode cX11_hand 86 = .ok (.iload_n 3, 1) := by decide +kernel
theorem dX11_hand_87 : decode cX11_hand 87 = .ok (.ifCond .eq 8, 3) := by decide +kernel
theorem dX11_hand_90 : decode cX11_hand 90 = .ok (.bipush 9, 2) := by decide +kernel
theorem dX11_hand_92 : decode cX11_hand 92 = .ok (.goto 5, 3) := by decide +kernel
theorem dX11_hand_95 : decode cX11_hand 95 = .ok (.bipush 8, 2) := by decide +kernel
theorem dX11_hand_97 : decode cX11_hand 97 = .ok (.iload_n 2, 1) := by decide +kernel
theorem dX11_hand_98 : decode cX11_hand 98 = .ok (.i2l, 1) := by decide +kernel
theorem dX11_hand_99 : decode cX11_hand 99 = .ok (.invokevirtual 223, 3) := by decide +kernel
theorem dX11_hand_102 : decode cX11_hand 102 = .ok (.iconst 1, 1) := by decide +kernel
theorem dX11_hand_103 : decode cX11_hand 103 = .ok (.ireturn, 1) := by decide +kernel
def F_X11_hand_97 (d : Nat) (v2 : Int32) (s0 : Option Nm) (s1 : Int32) (s2 : Int32) (h : MH) (u : Nat) (Q : Int32 → MH → Prop) : Prop :=
  rc h s0 8 ∧ iV d u_X9_place [jR s0, jI s1, jI s2, jL (v2.toInt64)] h u fun h u =>
  Q 1 h
set_option maxRecDepth 20000 in
theorem E_X11_hand_97 {d : Nat} {v2 : Int32} {s0 : Option Nm} {s1 : Int32} {s2 : Int32} {h : MH} {u : Nat} {Q : Int32 → MH → Prop} (H : F_X11_hand_97 d v2 s0 s1 s2 h u Q) : T u_X11_hand (d + 1) 97 [none, none, some (jI v2), none, none] [jI s2, jI s1, jR s0] h u (qI Q) := by
  unfold F_X11_hand_97 at H
  refine T_iload_n (pc := 97) dX11_hand_97 rfl rfl ?_
  refine T_i2l (pc := 98) dX11_hand_98 ?_
  obtain ⟨H0, H⟩ := H
  refine T_iV (pc := 99) (ci := 8) (av := [jI s1, jI s2, jL (v2.toInt64)]) (rest := []) (o := s0) dX11_hand_99 mf_X9_place c_3_121 c_3_122 c_3_123 rfl rfl (Nat.le_of_ble_eq_true rfl) rfl H0 (iV_k (iV_mono (fun h u H => ?_) H))
  refine T_iconst (pc := 102) (v := 1) dX11_hand_102 (by decide) ?_
  exact T_ireturn (pc := 103) rfl rfl dX11_hand_103 H
def F_X11_hand_55 (d : Nat) (v0 : Option Nm) (v1 : Int32) (v2 : Int32) (v3 : Int32) (h : MH) (u : Nat) (Q : Int32 → MH → Prop) : Prop :=
  iI d u_X11_isPlace [jI v1] h u fun x1 h u =>
  if x1 = 0 then
    Q (-2) h
  else
    if v2 = (-1) then
      gR h v0 10 1 fun x3 =>
      rc h x3 8 ∧ iV d u_X9_empty [jR x3, jI v1] h u fun h u =>
      Q 1 h
    else
      gR h v0 10 1 fun x2 =>
      if v3 = 0 then
        F_X11_hand_97 d v2 x2 v1 8 h u Q
      else
        F_X11_hand_97 d v2 x2 v1 9 h u Q
set_option maxRecDepth 20000 in
theorem E_X11_hand_55 {d : Nat} {v0 : Option Nm} {v1 : Int32} {v2 : Int32} {v3 : Int32} {h : MH} {u : Nat} {Q : Int32 → MH → Prop} (H : F_X11_hand_55 d v0 v1 v2 v3 h u Q) : T u_X11_hand (d + 1) 55 [some (jR v0), some (jI v1), some (jI v2), some (jI v3), none] [] h u (qI Q) := by
  unfold F_X11_hand_55 at H
  refine T_iload_n (pc := 55) dX11_hand_55 rfl rfl ?_
  refine T_invS (pc := 56) (av := [jI v1]) (rest := []) dX11_hand_56 mf_X11_isPlace c_3_118 c_3_119 rfl (Nat.le_of_ble_eq_true rfl) rfl (iI_k (iI_mono (fun x1 h u H => ?_) H))
  refine T_if_ne (pc := 59) (tgt := 65) dX11_hand_59 (by decide) (fun hc => ?_) (fun hc => ?_)
  · rw [if_neg hc] at H
    refine T_iload_n (pc := 65) dX11_hand_65 rfl rfl ?_
    refine T_iconst (pc := 66) (v := (-1)) dX11_hand_66 (by decide) ?_
    refine T_icmp_ne (pc := 67) (tgt := 81) dX11_hand_67 (by decide) (fun hc => ?_) (fun hc => ?_)
    · rw [if_neg hc] at H
      refine T_aload_n (pc := 81) dX11_hand_81 rfl rfl ?_
      refine T_gR (pc := 82) fa_X11_21 dX11_hand_82 (gR_mono (fun x2 H => ?_) H)
      refine T_iload_n (pc := 85) dX11_hand_85 rfl rfl ?_
      refine T_iload_n (pc := 86) dX11_hand_86 rfl rfl ?_
      refine T_if_eq (pc := 87) (tgt := 95) dX11_hand_87 (by decide) (fun hc => ?_) (fun hc => ?_)
      · rw [if_pos hc] at H
        refine T_bipush (pc := 95) (v := 8) dX11_hand_95 (by decide) ?_
        exact T.forget (E_X11_hand_97 H) ⟨rfl, trivial⟩
      · rw [if_neg hc] at H
        refine T_bipush (pc := 90) (v := 9) dX11_hand_90 (by decide) ?_
        refine T_goto (pc := 92) (tgt := 97) dX11_hand_92 (by decide) ?_
        exact T.forget (E_X11_hand_97 H) ⟨rfl, trivial⟩
    · rw [if_pos hc] at H
      refine T_aload_n (pc := 70) dX11_hand_70 rfl rfl ?_
      refine T_gR (pc := 71) fa_X11_21 dX11_hand_71 (gR_mono (fun x3 H => ?_) H)
      refine T_iload_n (pc := 74) dX11_hand_74 rfl rfl ?_
      obtain ⟨H0, H⟩ := H
      refine T_iV (pc := 75) (ci := 8) (av := [jI v1]) (rest := []) (o := x3) dX11_hand_75 mf_X9_empty c_3_129 c_3_130 c_3_131 rfl rfl (Nat.le_of_ble_eq_true rfl) rfl H0 (iV_k (iV_mono (fun h u H => ?_) H))
      refine T_goto (pc := 78) (tgt := 102) dX11_hand_78 (by decide) ?_
      refine T_iconst (pc := 102) (v := 1) dX11_hand_102 (by decide) ?_
      exact T_ireturn (pc := 103) rfl rfl dX11_hand_103 H
  · rw [if_pos hc] at H
    refine T_bipush (pc := 62) (v := (-2)) dX11_hand_62 (by decide) ?_
    exact T_ireturn (pc := 64) rfl rfl dX11_hand_64 H
def F_X11_hand_41 (d : Nat) (v0 : Option Nm) (v1 : Int32) (v2 : Int32) (v3 : Int32) (s0 : Int32) (h : MH) (u : Nat) (Q : Int32 → MH → Prop) : Prop :=
  if v2 = (-1) then
    F_X11_hand_55 d v0 v1 v2 v3 h u Q
  else
    if s0 = 0 then
      Q (-1) h
    else
      F_X11_hand_55 d v0 v1 v2 v3 h u Q
set_option maxRecDepth 20000 in
theorem E_X11_hand_41 {d : Nat} {v0 : Option Nm} {v1 : Int32} {v2 : Int32} {v3 : Int32} {s0 : Int32} {h : MH} {u : Nat} {Q : Int32 → MH → Prop} (H : F_X11_hand_41 d v0 v1 v2 v3 s0 h u Q) : T u_X11_hand (d + 1) 41 [some (jR v0), some (jI v1), some (jI v2), some (jI v3), none] [jI s0] h u (qI Q) := by
  unfold F_X11_hand_41 at H
  refine T_istore (pc := 41) (ls2 := [some (jR v0), some (jI v1), some (jI v2), some (jI v3), some (jI s0)]) dX11_hand_41 (Nat.le_of_ble_eq_true rfl) rfl ?_
  refine T_iload_n (pc := 43) dX11_hand_43 rfl rfl ?_
  refine T_iconst (pc := 44) (v := (-1)) dX11_hand_44 (by decide) ?_
  refine T_icmp_eq (pc := 45) (tgt := 55) dX11_hand_45 (by decide) (fun hc => ?_) (fun hc => ?_)
  · rw [if_pos hc] at H
    exact T.forget (E_X11_hand_55 H) ⟨rfl, rfl, rfl, rfl, trivial⟩
  · rw [if_neg hc] at H
    refine T_iload (pc := 48) dX11_hand_48 rfl ?_
    refine T_if_ne (pc := 50) (tgt := 55) dX11_hand_50 (by decide) (fun hc => ?_) (fun hc => ?_)
    · rw [if_neg hc] at H
      exact T.forget (E_X11_hand_55 H) ⟨rfl, rfl, rfl, rfl, trivial⟩
    · rw [if_pos hc] at H
      refine T_iconst (pc := 53) (v := (-1)) dX11_hand_53 (by decide) ?_
      exact T_ireturn (pc := 54) rfl rfl dX11_hand_54 H
def F_X11_hand (d : Nat) (v0 : Option Nm) (v1 : Int32) (v2 : Int32) (v3 : Int32) (h : MH) (u : Nat) (Q : Int32 → MH → Prop) : Prop :=
  if v3 = 0 then
    gR h v0 10 0 fun x1 =>
    rc h x1 6 ∧ iR d u_X7_findValue [jR x1, jL (v2.toInt64)] h u fun x2 h u =>
    nl x2 (
      F_X11_hand_41 d v0 v1 v2 v3 0 h u Q) (
      F_X11_hand_41 d v0 v1 v2 v3 1 h u Q)
  else
    gR h v0 10 0 fun x3 =>
    rc h x3 6 ∧ iR d u_X7_findRow [jR x3, jL (v2.toInt64)] h u fun x4 h u =>
    nl x4 (
      F_X11_hand_41 d v0 v1 v2 v3 0 h u Q) (
      F_X11_hand_41 d v0 v1 v2 v3 1 h u Q)
set_option maxRecDepth 20000 in
theorem E_X11_hand {d : Nat} {v0 : Option Nm} {v1 : Int32} {v2 : Int32} {v3 : Int32} {h : MH} {u : Nat} {Q : Int32 → MH → Prop} (H : F_X11_hand d v0 v1 v2 v3 h u Q) : T u_X11_hand (d + 1) 0 [some (jR v0), some (jI v1), some (jI v2), some (jI v3), none] [] h u (qI Q) := by
  unfold F_X11_hand at H
  refine T_iload_n (pc := 0) dX11_hand_0 rfl rfl ?_
  refine T_if_eq (pc := 1) (tgt := 24) dX11_hand_1 (by decide) (fun hc => ?_) (fun hc => ?_)
  · rw [if_pos hc] at H
    refine T_aload_n (pc := 24) dX11_hand_24 rfl rfl ?_
    refine T_gR (pc := 25) fa_X11_12 dX11_hand_25 (gR_mono (fun x1 H => ?_) H)
    refine T_iload_n (pc := 28) dX11_hand_28 rfl rfl ?_
    refine T_i2l (pc := 29) dX11_hand_29 ?_
    obtain ⟨H0, H⟩ := H
    refine T_iV (pc := 30) (ci := 6) (av := [jL (v2.toInt64)]) (rest := []) (o := x1) dX11_hand_30 mf_X7_findValue c_2_63 c_2_64 c_2_65 rfl rfl (Nat.le_of_ble_eq_true rfl) rfl H0 (iR_k (iR_mono (fun x2 h u H => ?_) H))
    refine T_ifnull (pc := 33) (tgt := 40) dX11_hand_33 (by decide) (fun ho => ?_) (fun n ho => ?_)
    · replace H := nl_n ho H
      refine T_iconst (pc := 40) (v := 0) dX11_hand_40 (by decide) ?_
      exact T.forget (E_X11_hand_41 H) ⟨rfl, rfl, rfl, rfl, trivial⟩
    · replace H := nl_s ho H
      refine T_iconst (pc := 36) (v := 1) dX11_hand_36 (by decide) ?_
      refine T_goto (pc := 37) (tgt := 41) dX11_hand_37 (by decide) ?_
      exact T.forget (E_X11_hand_41 H) ⟨rfl, rfl, rfl, rfl, trivial⟩
  · rw [if_neg hc] at H
    refine T_aload_n (pc := 4) dX11_hand_4 rfl rfl ?_
    refine T_gR (pc := 5) fa_X11_12 dX11_hand_5 (gR_mono (fun x3 H => ?_) H)
    refine T_iload_n (pc := 8) dX11_hand_8 rfl rfl ?_
    refine T_i2l (pc := 9) dX11_hand_9 ?_
    obtain ⟨H0, H⟩ := H
    refine T_iV (pc := 10) (ci := 6) (av := [jL (v2.toInt64)]) (rest := []) (o := x3) dX11_hand_10 mf_X7_findRow c_2_1 c_2_2 c_2_3 rfl rfl (Nat.le_of_ble_eq_true rfl) rfl H0 (iR_k (iR_mono (fun x4 h u H => ?_) H))
    refine T_ifnull (pc := 13) (tgt := 20) dX11_hand_13 (by decide) (fun ho => ?_) (fun n ho => ?_)
    · replace H := nl_n ho H
      refine T_iconst (pc := 20) (v := 0) dX11_hand_20 (by decide) ?_
      refine T_goto (pc := 21) (tgt := 41) dX11_hand_21 (by decide) ?_
      exact T.forget (E_X11_hand_41 H) ⟨rfl, rfl, rfl, rfl, trivial⟩
    · replace H := nl_s ho H
      refine T_iconst (pc := 16) (v := 1) dX11_hand_16 (by decide) ?_
      refine T_goto (pc := 17) (tgt := 41) dX11_hand_17 (by decide) ?_
      exact T.forget (E_X11_hand_41 H) ⟨rfl, rfl, rfl, rfl, trivial⟩
theorem I_X11_hand {d : Nat} {v0 : Option Nm} {v1 : Int32} {v2 : Int32} {v3 : Int32} {h : MH} {u : Nat} {K : Int32 → MH → Nat → Prop} (u1 : Nat) (hu : u1 ≤ u) (H : F_X11_hand d v0 v1 v2 v3 h u1 (fun x h2 => K x h2 (u - u1))) : iI (d + 1) u_X11_hand [jR v0, jI v1, jI v2, jI v3] h u K := inv.of u1 hu (Ct.of (by decide +kernel) rfl (Nat.le_of_ble_eq_true rfl) rfl (E_X11_hand H))
theorem dX11_make_0 : decode cX11_make 0 = .ok (.aload_n 0, 1) := by decide +kernel
theorem dX11_make_1 : decode cX11_make 1 = .ok (.iload_n 1, 1) := by decide +kernel
theorem dX11_make_2 : decode cX11_make 2 = .ok (.invokevirtual 155, 3) := by decide +kernel
theorem dX11_make_5 : decode cX11_make 5 = .ok (.astore_n 2, 1) := by decide +kernel
theorem dX11_make_6 : decode cX11_make 6 = .ok (.aload_n 2, 1) := by decide +kernel
theorem dX11_make_7 : decode cX11_make 7 = .ok (.ifnonnull 5, 3) := by decide +kernel
theorem dX11_make_10 : decode cX11_make 10 = .ok (.iconst (-1), 1) := by decide +kernel
theorem dX11_make_11 : decode cX11_make 11 = .ok (.ireturn, 1) := by decide +kernel
theorem dX11_make_12 : decode cX11_make 12 = .ok (.aload_n 2, 1) := by decide +kernel
theorem dX11_make_13 : decode cX11_make 13 = .ok (.getfield 192, 3) := by decide +kernel
theorem dX11_make_16 : decode cX11_make 16 = .ok (.ifCond .eq 6, 3) := by decide +kernel
theorem dX11_make_19 : decode cX11_make 19 = .ok (.bipush (-3), 2) := by decide +kernel
theorem dX11_make_21 : decode cX11_make 21 = .ok (.ireturn, 1) := by decide +kernel
theorem dX11_make_22 : decode cX11_make 22 = .ok (.aload_n 0, 1) := by decide +kernel
theorem dX11_make_23 : decode cX11_make 23 = .ok (.getfield 12, 3) := by decide +kernel
theorem dX11_make_26 : decode cX11_make 26 = .ok (.iconst 1, 1) := by decide +kernel
theorem dX11_make_27 : decode cX11_make 27 = .ok (.invokevirtual 231, 3) := by decide +kernel
theorem dX11_make_30 : decode cX11_make 30 = .ok (.ifCond .ne 6, 3) := by decide +kernel
theorem dX11_make_33 : decode cX11_make 33 = .ok (.bipush (-4), 2) := by decide +kernel
theorem dX11_make_35 : decode cX11_make 35 = .ok (.ireturn, 1) := by decide +kernel
theorem dX11_make_36 : decode cX11_make 36 = .ok (.aload_n 0, 1) := by decide +kernel
theorem dX11_make_37 : decode cX11_make 37 = .ok (.aload_n 2, 1) := by decide +kernel
theorem dX11_make_38 : decode cX11_make 38 = .ok (.invokevirtual 234, 3) := by decide +kernel
theorem dX11_make_41 : decode cX11_make 41 = .ok (.aload_n 0, 1) := by decide +kernel
theorem dX11_make_42 : decode cX11_make 42 = .ok (.getfield 30, 3) := by decide +kernel
theorem dX11_make_45 : decode cX11_make 45 = .ok (.aload_n 0, 1) := by decide +kernel
theorem dX11_make_46 : decode cX11_make 46 = .ok (.getfield 21, 3) := by decide +kernel
theorem dX11_make_49 : decode cX11_make 49 = .ok (.aload_n 2, 1) := by decide +kernel
theorem dX11_make_50 : decode cX11_make 50 = .ok (.invokevirtual 165, 3) := by decide +kernel
theorem dX11_make_53 : decode cX11_make 53 = .ok (.invokevirtual 238, 3) := by decide +kernel
theorem dX11_make_56 : decode cX11_make 56 = .ok (.istore_n 3, 1) := by decide +kernel
theorem dX11_make_57 : decode cX11_make 57 = .ok (.iload_n 3, 1) := by decide +kernel
theorem dX11_make_58 : decode cX11_make 58 = .ok (.ifCond .eq 9, 3) := by decide +kernel
theorem dX11_make_61 : decode cX11_make 61 = .ok (.aload_n 0, 1) := by decide +kernel
theorem dX11_make_62 : decode cX11_make 62 = .ok (.iload_n 3, 1) := by decide +kernel
theorem dX11_make_63 : decode cX11_make 63 = .ok (.invokevirtual 72, 3) := by decide +kernel
theorem dX11_make_66 : decode cX11_make 66 = .ok (.ireturn, 1) := by decide +kernel
theorem dX11_make_67 : decode cX11_make 67 = .ok (.aload_n 0, 1) := by decide +kernel
theorem dX11_make_68 : decode cX11_make 68 = .ok (.aload_n 2, 1) := by decide +kernel
theorem dX11_make_69 : decode cX11_make 69 = .ok (.invokevirtual 242, 3) := by decide +kernel
theorem dX11_make_72 : decode cX11_make 72 = .ok (.istore 4, 2) := by decide +kernel
theorem dX11_make_74 : decode cX11_make 74 = .ok (.iload 4, 2) := by decide +kernel
theorem dX11_make_76 : decode cX11_make 76 = .ok (.ifCond .lt 10, 3) := by decide +kernel
theorem dX11_make_79 : decode cX11_make 79 = .ok (.aload_n 0, 1) := by decide +kernel
theorem dX11_make_80 : decode cX11_make 80 = .ok (.getfield 21, 3) := by decide +kernel
theorem dX11_make_83 : decode cX11_make 83 = .ok (.invokevirtual 246, 3) := by decide +kernel
theorem dX11_make_86 : decode cX11_make 86 = .ok (.iload 4, 2) := by decide +kernel
theorem dX11_make_88 : decode cX11_make 88 = .ok (.ireturn, 1) := by decide +kernel
def F_X11_make (d : Nat) (v0 : Option Nm) (v1 : Int32) (h : MH) (u : Nat) (Q : Int32 → MH → Prop) : Prop :=
  rc h v0 10 ∧ iR d u_X11_findKind [jR v0, jI v1] h u fun x1 h u =>
  nl x1 (
    Q (-1) h) (
    gI h x1 3 1 fun x2 =>
    if x2 = 0 then
      gR h v0 10 0 fun x3 =>
      rc h x3 6 ∧ iI d u_X7_hasRoomForValues [jR x3, jI 1] h u fun x4 h u =>
      if x4 = 0 then
        Q (-4) h
      else
        rc h v0 10 ∧ iV d u_X11_start [jR v0, jR x1] h u fun h u =>
        gR h v0 10 2 fun x6 =>
        gR h v0 10 1 fun x7 =>
        rc h x1 3 ∧ iR d u_X3_newest [jR x1] h u fun x8 h u =>
        rc h x6 1 ∧ iI d u_X1_takeTray [jR x6, jR x7, jR x8] h u fun x9 h u =>
        if x9 = 0 then
          rc h v0 10 ∧ iI d u_X11_finish [jR v0, jR x1] h u fun x10 h u =>
          if x10 < 0 then
            Q x10 h
          else
            gR h v0 10 1 fun x11 =>
            rc h x11 8 ∧ iV d u_X9_emptyAll [jR x11] h u fun h u =>
            Q x10 h
        else
          rc h v0 10 ∧ iI d u_X11_failed [jR v0, jI x9] h u fun x13 h u =>
          Q x13 h
    else
      Q (-3) h)
set_option maxRecDepth 20000 in
theorem E_X11_make {d : Nat} {v0 : Option Nm} {v1 : Int32} {h : MH} {u : Nat} {Q : Int32 → MH → Prop} (H : F_X11_make d v0 v1 h u Q) : T u_X11_make (d + 1) 0 [some (jR v0), some (jI v1), none, none, none] [] h u (qI Q) := by
  unfold F_X11_make at H
  refine T_aload_n (pc := 0) dX11_make_0 rfl rfl ?_
  refine T_iload_n (pc := 1) dX11_make_1 rfl rfl ?_
  obtain ⟨H0, H⟩ := H
  refine T_iV (pc := 2) (ci := 10) (av := [jI v1]) (rest := []) (o := v0) dX11_make_2 mf_X11_findKind c_2_199 c_2_201 pr_X11_findKind rfl rfl (Nat.le_of_ble_eq_true rfl) rfl H0 (iR_k (iR_mono (fun x1 h u H => ?_) H))
  refine T_astore_n (pc := 5) (ls2 := [some (jR v0), some (jI v1), some (jR x1), none, none]) dX11_make_5 rfl (Nat.le_of_ble_eq_true rfl) rfl ?_
  refine T_aload_n (pc := 6) dX11_make_6 rfl rfl ?_
  refine T_ifnonnull (pc := 7) (tgt := 12) dX11_make_7 (by decide) (fun ho => ?_) (fun n ho => ?_)
  · replace H := nl_n ho H
    refine T_iconst (pc := 10) (v := (-1)) dX11_make_10 (by decide) ?_
    exact T_ireturn (pc := 11) rfl rfl dX11_make_11 H
  · replace H := nl_s ho H
    refine T_aload_n (pc := 12) dX11_make_12 rfl rfl ?_
    refine T_gI (pc := 13) fa_X11_192 dX11_make_13 (gI_mono (fun x2 H => ?_) H)
    refine T_if_eq (pc := 16) (tgt := 22) dX11_make_16 (by decide) (fun hc => ?_) (fun hc => ?_)
    · rw [if_pos hc] at H
      refine T_aload_n (pc := 22) dX11_make_22 rfl rfl ?_
      refine T_gR (pc := 23) fa_X11_12 dX11_make_23 (gR_mono (fun x3 H => ?_) H)
      refine T_iconst (pc := 26) (v := 1) dX11_make_26 (by decide) ?_
      obtain ⟨H0, H⟩ := H
      refine T_iV (pc := 27) (ci := 6) (av := [jI 1]) (rest := []) (o := x3) dX11_make_27 mf_X7_hasRoomForValues c_3_5 c_3_6 c_3_7 rfl rfl (Nat.le_of_ble_eq_true rfl) rfl H0 (iI_k (iI_mono (fun x4 h u H => ?_) H))
      refine T_if_ne (pc := 30) (tgt := 36) dX11_make_30 (by decide) (fun hc => ?_) (fun hc => ?_)
      · rw [if_neg hc] at H
        refine T_aload_n (pc := 36) dX11_make_36 rfl rfl ?_
        refine T_aload_n (pc := 37) dX11_make_37 rfl rfl ?_
        obtain ⟨H0, H⟩ := H
        refine T_iV (pc := 38) (ci := 10) (av := [jR x1]) (rest := []) (o := v0) dX11_make_38 mf_X11_start c_3_137 c_3_139 pr_X11_start rfl rfl (Nat.le_of_ble_eq_true rfl) rfl H0 (iV_k (iV_mono (fun h u H => ?_) H))
        refine T_aload_n (pc := 41) dX11_make_41 rfl rfl ?_
        refine T_gR (pc := 42) fa_X11_30 dX11_make_42 (gR_mono (fun x6 H => ?_) H)
        refine T_aload_n (pc := 45) dX11_make_45 rfl rfl ?_
        refine T_gR (pc := 46) fa_X11_21 dX11_make_46 (gR_mono (fun x7 H => ?_) H)
        refine T_aload_n (pc := 49) dX11_make_49 rfl rfl ?_
        obtain ⟨H0, H⟩ := H
        refine T_iV (pc := 50) (ci := 3) (av := []) (rest := [jR x7, jR x6]) (o := x1) dX11_make_50 mf_X3_newest c_2_213 c_2_214 c_2_215 rfl rfl (Nat.le_of_ble_eq_true rfl) rfl H0 (iR_k (iR_mono (fun x8 h u H => ?_) H))
        obtain ⟨H0, H⟩ := H
        refine T_iV (pc := 53) (ci := 1) (av := [jR x7, jR x8]) (rest := []) (o := x6) dX11_make_53 mf_X1_takeTray c_3_145 c_3_146 c_3_147 rfl rfl (Nat.le_of_ble_eq_true rfl) rfl H0 (iI_k (iI_mono (fun x9 h u H => ?_) H))
        refine T_istore_n (pc := 56) (ls2 := [some (jR v0), some (jI v1), some (jR x1), some (jI x9), none]) dX11_make_56 rfl (Nat.le_of_ble_eq_true rfl) rfl ?_
        refine T_iload_n (pc := 57) dX11_make_57 rfl rfl ?_
        refine T_if_eq (pc := 58) (tgt := 67) dX11_make_58 (by decide) (fun hc => ?_) (fun hc => ?_)
        · rw [if_pos hc] at H
          refine T_aload_n (pc := 67) dX11_make_67 rfl rfl ?_
          refine T_aload_n (pc := 68) dX11_make_68 rfl rfl ?_
          obtain ⟨H0, H⟩ := H
          refine T_iV (pc := 69) (ci := 10) (av := [jR x1]) (rest := []) (o := v0) dX11_make_69 mf_X11_finish c_3_161 c_3_163 pr_X11_finish rfl rfl (Nat.le_of_ble_eq_true rfl) rfl H0 (iI_k (iI_mono (fun x10 h u H => ?_) H))
          refine T_istore (pc := 72) (ls2 := [some (jR v0), some (jI v1), some (jR x1), some (jI x9), some (jI x10)]) dX11_make_72 (Nat.le_of_ble_eq_true rfl) rfl ?_
          refine T_iload (pc := 74) dX11_make_74 rfl ?_
          refine T_if_lt (pc := 76) (tgt := 86) dX11_make_76 (by decide) (fun hc => ?_) (fun hc => ?_)
          · rw [if_pos hc] at H
            refine T_iload (pc := 86) dX11_make_86 rfl ?_
            exact T_ireturn (pc := 88) rfl rfl dX11_make_88 H
          · rw [if_neg hc] at H
            refine T_aload_n (pc := 79) dX11_make_79 rfl rfl ?_
            refine T_gR (pc := 80) fa_X11_21 dX11_make_80 (gR_mono (fun x11 H => ?_) H)
            obtain ⟨H0, H⟩ := H
            refine T_iV (pc := 83) (ci := 8) (av := []) (rest := []) (o := x11) dX11_make_83 mf_X9_emptyAll c_3_216 c_3_217 c_3_218 rfl rfl (Nat.le_of_ble_eq_true rfl) rfl H0 (iV_k (iV_mono (fun h u H => ?_) H))
            refine T_iload (pc := 86) dX11_make_86 rfl ?_
            exact T_ireturn (pc := 88) rfl rfl dX11_make_88 H
        · rw [if_neg hc] at H
          refine T_aload_n (pc := 61) dX11_make_61 rfl rfl ?_
          refine T_iload_n (pc := 62) dX11_make_62 rfl rfl ?_
          obtain ⟨H0, H⟩ := H
          refine T_iV (pc := 63) (ci := 10) (av := [jI x9]) (rest := []) (o := v0) dX11_make_63 mf_X11_failed c_1_196 c_1_198 pr_X11_failed rfl rfl (Nat.le_of_ble_eq_true rfl) rfl H0 (iI_k (iI_mono (fun x13 h u H => ?_) H))
          exact T_ireturn (pc := 66) rfl rfl dX11_make_66 H
      · rw [if_pos hc] at H
        refine T_bipush (pc := 33) (v := (-4)) dX11_make_33 (by decide) ?_
        exact T_ireturn (pc := 35) rfl rfl dX11_make_35 H
    · rw [if_neg hc] at H
      refine T_bipush (pc := 19) (v := (-3)) dX11_make_19 (by decide) ?_
      exact T_ireturn (pc := 21) rfl rfl dX11_make_21 H
theorem I_X11_make {d : Nat} {v0 : Option Nm} {v1 : Int32} {h : MH} {u : Nat} {K : Int32 → MH → Nat → Prop} (u1 : Nat) (hu : u1 ≤ u) (H : F_X11_make d v0 v1 h u1 (fun x h2 => K x h2 (u - u1))) : iI (d + 1) u_X11_make [jR v0, jI v1] h u K := inv.of u1 hu (Ct.of (by decide +kernel) rfl (Nat.le_of_ble_eq_true rfl) rfl (E_X11_make H))
theorem dX11_named_0 : decode cX11_named 0 = .ok (.aload_n 0, 1) := by decide +kernel
theorem dX11_named_1 : decode cX11_named 1 = .ok (.iload_n 1, 1) := by decide +kernel
theorem dX11_named_2 : decode cX11_named 2 = .ok (.invokevirtual 155, 3) := by decide +kernel
theorem dX11_named_5 : decode cX11_named 5 = .ok (.astore_n 3, 1) := by decide +kernel
theorem dX11_named_6 : decode cX11_named 6 = .ok (.aload_n 3, 1) := by decide +kernel
theorem dX11_named_7 : decode cX11_named 7 = .ok (.ifnonnull 5, 3) := by decide +kernel
theorem dX11_named_10 : decode cX11_named 10 = .ok (.iconst (-1), 1) := by decide +kernel
theorem dX11_named_11 : decode cX11_named 11 = .ok (.ireturn, 1) := by decide +kernel
theorem dX11_named_12 : decode cX11_named 12 = .ok (.aload_n 3, 1) := by decide +kernel
theorem dX11_named_13 : decode cX11_named 13 = .ok (.invokevirtual 165, 3) := by decide +kernel
theorem dX11_named_16 : decode cX11_named 16 = .ok (.astore 4, 2) := by decide +kernel
theorem dX11_named_18 : decode cX11_named 18 = .ok (.aload 4, 2) := by decide +kernel
theorem dX11_named_20 : decode cX11_named 20 = .ok (.iload_n 2, 1) := by decide +kernel
theorem dX11_named_21 : decode cX11_named 21 = .ok (.invokevirtual 172, 3) := by decide +kernel
theorem dX11_named_24 : decode cX11_named 24 = .ok (.istore 5, 2) := by decide +kernel
theorem dX11_named_26 : decode cX11_named 26 = .ok (.aload_n 3, 1) := by decide +kernel
theorem dX11_named_27 : decode cX11_named 27 = .ok (.getfield 192, 3) := by decide +kernel
theorem dX11_named_30 : decode cX11_named 30 = .ok (.ifCond .eq 9, 3) := by decide +kernel
theorem dX11_named_33 : decode cX11_named 33 = .ok (.iload 5, 2) := by decide +kernel
theorem dX11_named_35 : decode cX11_named 35 = .ok (.iconst (-1), 1) := by decide +kernel
theorem dX11_named_36 : decode cX11_named 36 = .ok (.if_icmp .ne 6, 3) := by decide +kernel
theorem dX11_named_39 : decode cX11_named 39 = .ok (.bipush (-3), 2) := by decide +kernel
theorem dX11_named_41 : decode cX11_named 41 = .ok (.ireturn, 1) := by decide +kernel
theorem dX11_named_42 : decode cX11_named 42 = .ok (.aload_n 3, 1) := by decide +kernel
theorem dX11_named_43 : decode cX11_named 43 = .ok (.getfield 169, 3) := by decide +kernel
theorem dX11_named_46 : decode cX11_named 46 = .ok (.ifCond .ne 21, 3) := by decide +kernel
theorem dX11_named_49 : decode cX11_named 49 = .ok (.aload_n 0, 1) := by decide +kernel
theorem dX11_named_50 : decode cX11_named 50 = .ok (.getfield 12, 3) := by decide +kernel
theorem dX11_named_53 : decode cX11_named 53 = .ok (.aload 4, 2) := by decide +kernel
theorem dX11_named_55 : decode cX11_named 55 = .ok (.getfield 185, 3) := by decide +kernel
theorem dX11_named_58 : decode cX11_named 58 = .ok (.invokevirtual 231, 3) := by decide +kernel
theorem dX11_named_61 : decode cX11_named 61 = .ok (.ifCond .ne 6, 3) := by decide +kernel
theorem dX11_named_64 : decode cX11_named 64 = .ok (.bipush (-4), 2) := by decide +kernel
theorem dX11_named_66 : decode cX11_named 66 = .ok (.ireturn, 1) := by decide +kernel
theorem dX11_named_67 : decode cX11_named 67 = .ok (.aload_n 0, 1) := by decide +kernel
theorem dX11_named_68 : decode cX11_named 68 = .ok (.aload_n 3, 1) := by decide +kernel
theorem dX11_named_69 : decode cX11_named 69 = .ok (.invokevirtual 234, 3) := by decide +kernel
theorem dX11_named_72 : decode cX11_named 72 = .ok (.aload 4, 2) := by decide +kernel
theorem dX11_named_74 : decode cX11_named 74 = .ok (.getfield 249, 3) := by decide +kernel
theorem dX11_named_77 : decode cX11_named 77 = .ok (.iload 5, 2) := by decide +kernel
theorem dX11_named_79 : decode cX11_named 79 = .ok (.iaload, 1) := by decide +kernel
theorem dX11_named_80 : decode cX11_named 80 = .ok (.ireturn, 1) := by decide +kernel
def F_X11_named_67 (d : Nat) (v0 : Option Nm) (v3 : Option Nm) (v4 : Option Nm) (v5 : Int32) (h : MH) (u : Nat) (Q : Int32 → MH → Prop) : Prop :=
  rc h v0 10 ∧ iV d u_X11_start [jR v0, jR v3] h u fun h u =>
  gR h v4 2 3 fun x2 =>
  aI .int h x2 v5 fun x3 =>
  Q x3 h
set_option maxRecDepth 20000 in
theorem E_X11_named_67 {d : Nat} {v0 : Option Nm} {v3 : Option Nm} {v4 : Option Nm} {v5 : Int32} {h : MH} {u : Nat} {Q : Int32 → MH → Prop} (H : F_X11_named_67 d v0 v3 v4 v5 h u Q) : T u_X11_named (d + 1) 67 [some (jR v0), none, none, some (jR v3), some (jR v4), some (jI v5)] [] h u (qI Q) := by
  unfold F_X11_named_67 at H
  refine T_aload_n (pc := 67) dX11_named_67 rfl rfl ?_
  refine T_aload_n (pc := 68) dX11_named_68 rfl rfl ?_
  obtain ⟨H0, H⟩ := H
  refine T_iV (pc := 69) (ci := 10) (av := [jR v3]) (rest := []) (o := v0) dX11_named_69 mf_X11_start c_3_137 c_3_139 pr_X11_start rfl rfl (Nat.le_of_ble_eq_true rfl) rfl H0 (iV_k (iV_mono (fun h u H => ?_) H))
  refine T_aload (pc := 72) dX11_named_72 rfl ?_
  refine T_gR (pc := 74) fa_X11_249 dX11_named_74 (gR_mono (fun x2 H => ?_) H)
  refine T_iload (pc := 77) dX11_named_77 rfl ?_
  refine T_aI (pc := 79) dX11_named_79 (aI_mono (fun x3 H => ?_) H)
  exact T_ireturn (pc := 80) rfl rfl dX11_named_80 H
def F_X11_named (d : Nat) (v0 : Option Nm) (v1 : Int32) (v2 : Int32) (h : MH) (u : Nat) (Q : Int32 → MH → Prop) : Prop :=
  rc h v0 10 ∧ iR d u_X11_findKind [jR v0, jI v1] h u fun x1 h u =>
  nl x1 (
    Q (-1) h) (
    rc h x1 3 ∧ iR d u_X3_newest [jR x1] h u fun x2 h u =>
    rc h x2 2 ∧ iI d u_X2_find [jR x2, jI v2] h u fun x3 h u =>
    gI h x1 3 1 fun x4 =>
    if x4 = 0 then
      Q (-3) h
    else
      if x3 = (-1) then
        Q (-3) h
      else
        gI h x1 3 5 fun x5 =>
        if x5 = 0 then
          gR h v0 10 0 fun x6 =>
          gI h x2 2 4 fun x7 =>
          rc h x6 6 ∧ iI d u_X7_hasRoomForValues [jR x6, jI x7] h u fun x8 h u =>
          if x8 = 0 then
            Q (-4) h
          else
            F_X11_named_67 d v0 x1 x2 x3 h u Q
        else
          F_X11_named_67 d v0 x1 x2 x3 h u Q)
set_option maxRecDepth 20000 in
theorem E_X11_named {d : Nat} {v0 : Option Nm} {v1 : Int32} {v2 : Int32} {h : MH} {u : Nat} {Q : Int32 → MH → Prop} (H : F_X11_named d v0 v1 v2 h u Q) : T u_X11_named (d + 1) 0 [some (jR v0), some (jI v1), some (jI v2), none, none, none] [] h u (qI Q) := by
  unfold F_X11_named at H
  refine T_aload_n (pc := 0) dX11_named_0 rfl rfl ?_
  refine T_iload_n (pc := 1) dX11_named_1 rfl rfl ?_
  obtain ⟨H0, H⟩ := H
  refine T_iV (pc := 2) (ci := 10) (av := [jI v1]) (rest := []) (o := v0) dX11_named_2 mf_X11_findKind c_2_199 c_2_201 pr_X11_findKind rfl rfl (Nat.le_of_ble_eq_true rfl) rfl H0 (iR_k (iR_mono (fun x1 h u H => ?_) H))
  refine T_astore_n (pc := 5) (ls2 := [some (jR v0), some (jI v1), some (jI v2), some (jR x1), none, none]) dX11_named_5 rfl (Nat.le_of_ble_eq_true rfl) rfl ?_
  refine T_aload_n (pc := 6) dX11_named_6 rfl rfl ?_
  refine T_ifnonnull (pc := 7) (tgt := 12) dX11_named_7 (by decide) (fun ho => ?_) (fun n ho => ?_)
  · replace H := nl_n ho H
    refine T_iconst (pc := 10) (v := (-1)) dX11_named_10 (by decide) ?_
    exact T_ireturn (pc := 11) rfl rfl dX11_named_11 H
  · replace H := nl_s ho H
    refine T_aload_n (pc := 12) dX11_named_12 rfl rfl ?_
    obtain ⟨H0, H⟩ := H
    refine T_iV (pc := 13) (ci := 3) (av := []) (rest := []) (o := x1) dX11_named_13 mf_X3_newest c_2_213 c_2_214 c_2_215 rfl rfl (Nat.le_of_ble_eq_true rfl) rfl H0 (iR_k (iR_mono (fun x2 h u H => ?_) H))
    refine T_astore (pc := 16) (ls2 := [some (jR v0), some (jI v1), some (jI v2), some (jR x1), some (jR x2), none]) dX11_named_16 (Nat.le_of_ble_eq_true rfl) rfl ?_
    refine T_aload (pc := 18) dX11_named_18 rfl ?_
    refine T_iload_n (pc := 20) dX11_named_20 rfl rfl ?_
    obtain ⟨H0, H⟩ := H
    refine T_iV (pc := 21) (ci := 2) (av := [jI v2]) (rest := []) (o := x2) dX11_named_21 mf_X2_find c_2_217 c_2_218 c_2_219 rfl rfl (Nat.le_of_ble_eq_true rfl) rfl H0 (iI_k (iI_mono (fun x3 h u H => ?_) H))
    refine T_istore (pc := 24) (ls2 := [some (jR v0), some (jI v1), some (jI v2), some (jR x1), some (jR x2), some (jI x3)]) dX11_named_24 (Nat.le_of_ble_eq_true rfl) rfl ?_
    refine T_aload_n (pc := 26) dX11_named_26 rfl rfl ?_
    refine T_gI (pc := 27) fa_X11_192 dX11_named_27 (gI_mono (fun x4 H => ?_) H)
    refine T_if_eq (pc := 30) (tgt := 39) dX11_named_30 (by decide) (fun hc => ?_) (fun hc => ?_)
    · rw [if_pos hc] at H
      refine T_bipush (pc := 39) (v := (-3)) dX11_named_39 (by decide) ?_
      exact T_ireturn (pc := 41) rfl rfl dX11_named_41 H
    · rw [if_neg hc] at H
      refine T_iload (pc := 33) dX11_named_33 rfl ?_
      refine T_iconst (pc := 35) (v := (-1)) dX11_named_35 (by decide) ?_
      refine T_icmp_ne (pc := 36) (tgt := 42) dX11_named_36 (by decide) (fun hc => ?_) (fun hc => ?_)
      · rw [if_neg hc] at H
        refine T_aload_n (pc := 42) dX11_named_42 rfl rfl ?_
        refine T_gI (pc := 43) fa_X11_169 dX11_named_43 (gI_mono (fun x5 H => ?_) H)
        refine T_if_ne (pc := 46) (tgt := 67) dX11_named_46 (by decide) (fun hc => ?_) (fun hc => ?_)
        · rw [if_neg hc] at H
          exact T.forget (E_X11_named_67 H) ⟨rfl, rfl, rfl, rfl, trivial⟩
        · rw [if_pos hc] at H
          refine T_aload_n (pc := 49) dX11_named_49 rfl rfl ?_
          refine T_gR (pc := 50) fa_X11_12 dX11_named_50 (gR_mono (fun x6 H => ?_) H)
          refine T_aload (pc := 53) dX11_named_53 rfl ?_
          refine T_gI (pc := 55) fa_X11_185 dX11_named_55 (gI_mono (fun x7 H => ?_) H)
          obtain ⟨H0, H⟩ := H
          refine T_iV (pc := 58) (ci := 6) (av := [jI x7]) (rest := []) (o := x6) dX11_named_58 mf_X7_hasRoomForValues c_3_5 c_3_6 c_3_7 rfl rfl (Nat.le_of_ble_eq_true rfl) rfl H0 (iI_k (iI_mono (fun x8 h u H => ?_) H))
          refine T_if_ne (pc := 61) (tgt := 67) dX11_named_61 (by decide) (fun hc => ?_) (fun hc => ?_)
          · rw [if_neg hc] at H
            exact T.forget (E_X11_named_67 H) ⟨rfl, rfl, rfl, rfl, trivial⟩
          · rw [if_pos hc] at H
            refine T_bipush (pc := 64) (v := (-4)) dX11_named_64 (by decide) ?_
            exact T_ireturn (pc := 66) rfl rfl dX11_named_66 H
      · rw [if_pos hc] at H
        refine T_bipush (pc := 39) (v := (-3)) dX11_named_39 (by decide) ?_
        exact T_ireturn (pc := 41) rfl rfl dX11_named_41 H
theorem I_X11_named {d : Nat} {v0 : Option Nm} {v1 : Int32} {v2 : Int32} {h : MH} {u : Nat} {K : Int32 → MH → Nat → Prop} (u1 : Nat) (hu : u1 ≤ u) (H : F_X11_named d v0 v1 v2 h u1 (fun x h2 => K x h2 (u - u1))) : iI (d + 1) u_X11_named [jR v0, jI v1, jI v2] h u K := inv.of u1 hu (Ct.of (by decide +kernel) rfl (Nat.le_of_ble_eq_true rfl) rfl (E_X11_named H))
theorem dX11_part_0 : decode cX11_part 0 = .ok (.aload_n 0, 1) := by decide +kernel
theorem dX11_part_1 : decode cX11_part 1 = .ok (.getfield 12, 3) := by decide +kernel
theorem dX11_part_4 : decode cX11_part 4 = .ok (.iload_n 1, 1) := by decide +kernel
theorem dX11_part_5 : decode cX11_part 5 = .ok (.i2l, 1) := by decide +kernel
theorem dX11_part_6 : decode cX11_part 6 = .ok (.invokevirtual 118, 3) := by decide +kernel
theorem dX11_part_9 : decode cX11_part 9 = .ok (.astore_n 3, 1) := by decide +kernel
theorem dX11_part_10 : decode cX11_part 10 = .ok (.aload_n 3, 1) := by decide +kernel
theorem dX11_part_11 : decode cX11_part 11 = .ok (.ifnull 13, 3) := by decide +kernel
theorem dX11_part_14 : decode cX11_part 14 = .ok (.aload_n 3, 1) := by decide +kernel
theorem dX11_part_15 : decode cX11_part 15 = .ok (.getfield 252, 3) := by decide +kernel
theorem dX11_part_18 : decode cX11_part 18 = .ok (.getfield 192, 3) := by decide +kernel
theorem dX11_part_21 : decode cX11_part 21 = .ok (.ifCond .eq 7, 3) := by decide +kernel
theorem dX11_part_24 : decode cX11_part 24 = .ok (.ldc2_w 112, 3) := by decide +kernel
theorem dX11_part_27 : decode cX11_part 27 = .ok (.lreturn, 1) := by decide +kernel
theorem dX11_part_28 : decode cX11_part 28 = .ok (.aload_n 3, 1) := by decide +kernel
theorem dX11_part_29 : decode cX11_part 29 = .ok (.iload_n 2, 1) := by decide +kernel
theorem dX11_part_30 : decode cX11_part 30 = .ok (.invokevirtual 258, 3) := by decide +kernel
theorem dX11_part_33 : decode cX11_part 33 = .ok (.ifCond .ne 9, 3) := by decide +kernel
theorem dX11_part_36 : decode cX11_part 36 = .ok (.aload_n 0, 1) := by decide +kernel
theorem dX11_part_37 : decode cX11_part 37 = .ok (.iconst 2, 1) := by decide +kernel
theorem dX11_part_38 : decode cX11_part 38 = .ok (.invokevirtual 114, 3) := by decide +kernel
theorem dX11_part_41 : decode cX11_part 41 = .ok (.lreturn, 1) := by decide +kernel
theorem dX11_part_42 : decode cX11_part 42 = .ok (.aload_n 3, 1) := by decide +kernel
theorem dX11_part_43 : decode cX11_part 43 = .ok (.iload_n 2, 1) := by decide +kernel
theorem dX11_part_44 : decode cX11_part 44 = .ok (.invokevirtual 261, 3) := by decide +kernel
theorem dX11_part_47 : decode cX11_part 47 = .ok (.lreturn, 1) := by decide +kernel
def F_X11_part (d : Nat) (v0 : Option Nm) (v1 : Int32) (v2 : Int32) (h : MH) (u : Nat) (Q : Int64 → MH → Prop) : Prop :=
  gR h v0 10 0 fun x1 =>
  rc h x1 6 ∧ iR d u_X7_findValue [jR x1, jL (v1.toInt64)] h u fun x2 h u =>
  nl x2 (
    Q (-9223372036854775808) h) (
    gR h x2 9 1 fun x3 =>
    gI h x3 3 1 fun x4 =>
    if x4 = 0 then
      rc h x2 9 ∧ iI d u_X10_hasPart [jR x2, jI v2] h u fun x5 h u =>
      if x5 = 0 then
        rc h v0 10 ∧ iL d u_X11_lost [jR v0, jI 2] h u fun x7 h u =>
        Q x7 h
      else
        rc h x2 9 ∧ iL d u_X10_tellPart [jR x2, jI v2] h u fun x6 h u =>
        Q x6 h
    else
      Q (-9223372036854775808) h)
set_option maxRecDepth 20000 in
theorem E_X11_part {d : Nat} {v0 : Option Nm} {v1 : Int32} {v2 : Int32} {h : MH} {u : Nat} {Q : Int64 → MH → Prop} (H : F_X11_part d v0 v1 v2 h u Q) : T u_X11_part (d + 1) 0 [some (jR v0), some (jI v1), some (jI v2), none] [] h u (qL Q) := by
  unfold F_X11_part at H
  refine T_aload_n (pc := 0) dX11_part_0 rfl rfl ?_
  refine T_gR (pc := 1) fa_X11_12 dX11_part_1 (gR_mono (fun x1 H => ?_) H)
  refine T_iload_n (pc := 4) dX11_part_4 rfl rfl ?_
  refine T_i2l (pc := 5) dX11_part_5 ?_
  obtain ⟨H0, H⟩ := H
  refine T_iV (pc := 6) (ci := 6) (av := [jL (v1.toInt64)]) (rest := []) (o := x1) dX11_part_6 mf_X7_findValue c_2_63 c_2_64 c_2_65 rfl rfl (Nat.le_of_ble_eq_true rfl) rfl H0 (iR_k (iR_mono (fun x2 h u H => ?_) H))
  refine T_astore_n (pc := 9) (ls2 := [some (jR v0), some (jI v1), some (jI v2), some (jR x2)]) dX11_part_9 rfl (Nat.le_of_ble_eq_true rfl) rfl ?_
  refine T_aload_n (pc := 10) dX11_part_10 rfl rfl ?_
  refine T_ifnull (pc := 11) (tgt := 24) dX11_part_11 (by decide) (fun ho => ?_) (fun n ho => ?_)
  · replace H := nl_n ho H
    refine T_ldc2 (pc := 24) (v := (-9223372036854775808)) dX11_part_24 c_2_54 ?_
    exact T_lreturn (pc := 27) rfl dX11_part_27 H
  · replace H := nl_s ho H
    refine T_aload_n (pc := 14) dX11_part_14 rfl rfl ?_
    refine T_gR (pc := 15) fa_X11_252 dX11_part_15 (gR_mono (fun x3 H => ?_) H)
    refine T_gI (pc := 18) fa_X11_192 dX11_part_18 (gI_mono (fun x4 H => ?_) H)
    refine T_if_eq (pc := 21) (tgt := 28) dX11_part_21 (by decide) (fun hc => ?_) (fun hc => ?_)
    · rw [if_pos hc] at H
      refine T_aload_n (pc := 28) dX11_part_28 rfl rfl ?_
      refine T_iload_n (pc := 29) dX11_part_29 rfl rfl ?_
      obtain ⟨H0, H⟩ := H
      refine T_iV (pc := 30) (ci := 9) (av := [jI v2]) (rest := []) (o := x2) dX11_part_30 mf_X10_hasPart c_3_228 c_3_229 c_3_230 rfl rfl (Nat.le_of_ble_eq_true rfl) rfl H0 (iI_k (iI_mono (fun x5 h u H => ?_) H))
      refine T_if_ne (pc := 33) (tgt := 42) dX11_part_33 (by decide) (fun hc => ?_) (fun hc => ?_)
      · rw [if_neg hc] at H
        refine T_aload_n (pc := 42) dX11_part_42 rfl rfl ?_
        refine T_iload_n (pc := 43) dX11_part_43 rfl rfl ?_
        obtain ⟨H0, H⟩ := H
        refine T_iV (pc := 44) (ci := 9) (av := [jI v2]) (rest := []) (o := x2) dX11_part_44 mf_X10_tellPart c_3_232 c_3_233 c_3_234 rfl rfl (Nat.le_of_ble_eq_true rfl) rfl H0 (iL_k (iL_mono (fun x6 h u H => ?_) H))
        exact T_lreturn (pc := 47) rfl dX11_part_47 H
      · rw [if_pos hc] at H
        refine T_aload_n (pc := 36) dX11_part_36 rfl rfl ?_
        refine T_iconst (pc := 37) (v := 2) dX11_part_37 (by decide) ?_
        obtain ⟨H0, H⟩ := H
        refine T_iV (pc := 38) (ci := 10) (av := [jI 2]) (rest := []) (o := v0) dX11_part_38 mf_X11_lost c_2_55 c_2_57 pr_X11_lost rfl rfl (Nat.le_of_ble_eq_true rfl) rfl H0 (iL_k (iL_mono (fun x7 h u H => ?_) H))
        exact T_lreturn (pc := 41) rfl dX11_part_41 H
    · rw [if_neg hc] at H
      refine T_ldc2 (pc := 24) (v := (-9223372036854775808)) dX11_part_24 c_2_54 ?_
      exact T_lreturn (pc := 27) rfl dX11_part_27 H
theorem I_X11_part {d : Nat} {v0 : Option Nm} {v1 : Int32} {v2 : Int32} {h : MH} {u : Nat} {K : Int64 → MH → Nat → Prop} (u1 : Nat) (hu : u1 ≤ u) (H : F_X11_part d v0 v1 v2 h u1 (fun x h2 => K x h2 (u - u1))) : iL (d + 1) u_X11_part [jR v0, jI v1, jI v2] h u K := inv.of u1 hu (Ct.of (by decide +kernel) rfl (Nat.le_of_ble_eq_true rfl) rfl (E_X11_part H))
theorem dX11_accessor_0 : decode cX11_accessor 0 = .ok (.aload_n 0, 1) := by decide +kernel
theorem dX11_accessor_1 : decode cX11_accessor 1 = .ok (.getfield 12, 3) := by decide +kernel
theorem dX11_accessor_4 : decode cX11_accessor 4 = .ok (.iload_n 1, 1) := by decide +kernel
theorem dX11_accessor_5 : decode cX11_accessor 5 = .ok (.i2l, 1) := by decide +kernel
theorem dX11_accessor_6 : decode cX11_accessor 6 = .ok (.invokevirtual 118, 3) := by decide +kernel
theorem dX11_accessor_9 : decode cX11_accessor 9 = .ok (.astore_n 3, 1) := by decide +kernel
theorem dX11_accessor_10 : decode cX11_accessor 10 = .ok (.aload_n 3, 1) := by decide +kernel
theorem dX11_accessor_11 : decode cX11_accessor 11 = .ok (.ifnull 13, 3) := by decide +kernel
theorem dX11_accessor_14 : decode cX11_accessor 14 = .ok (.aload_n 3, 1) := by decide +kernel
theorem dX11_accessor_15 : decode cX11_accessor 15 = .ok (.getfield 252, 3) := by decide +kernel
theorem dX11_accessor_18 : decode cX11_accessor 18 = .ok (.getfield 192, 3) := by decide +kernel
theorem dX11_accessor_21 : decode cX11_accessor 21 = .ok (.ifCond .eq 7, 3) := by decide +kernel
theorem dX11_accessor_24 : decode cX11_accessor 24 = .ok (.ldc2_w 112, 3) := by decide +kernel
theorem dX11_accessor_27 : decode cX11_accessor 27 = .ok (.lreturn, 1) := by decide +kernel
theorem dX11_accessor_28 : decode cX11_accessor 28 = .ok (.aload_n 3, 1) := by decide +kernel
theorem dX11_accessor_29 : decode cX11_accessor 29 = .ok (.getfield 264, 3) := by decide +kernel
theorem dX11_accessor_32 : decode cX11_accessor 32 = .ok (.iload_n 2, 1) := by decide +kernel
theorem dX11_accessor_33 : decode cX11_accessor 33 = .ok (.invokevirtual 172, 3) := by decide +kernel
theorem dX11_accessor_36 : decode cX11_accessor 36 = .ok (.istore 4, 2) := by decide +kernel
theorem dX11_accessor_38 : decode cX11_accessor 38 = .ok (.iload 4, 2) := by decide +kernel
theorem dX11_accessor_40 : decode cX11_accessor 40 = .ok (.iconst (-1), 1) := by decide +kernel
theorem dX11_accessor_41 : decode cX11_accessor 41 = .ok (.if_icmp .ne 9, 3) := by decide +kernel
theorem dX11_accessor_44 : decode cX11_accessor 44 = .ok (.ldc2_w 112, 3) := by decide +kernel
theorem dX11_accessor_47 : decode cX11_accessor 47 = .ok (.goto 9, 3) := by decide +kernel
theorem dX11_accessor_50 : decode cX11_accessor 50 = .ok (.aload_n 3, 1) := by decide +kernel
theorem dX11_accessor_51 : decode cX11_accessor 51 = .ok (.iload 4, 2) := by decide +kernel
theorem dX11_accessor_53 : decode cX11_accessor 53 = .ok (.invokevirtual 261, 3) := by decide +kernel
theorem dX11_accessor_56 : decode cX11_accessor 56 = .ok (.lreturn, 1) := by decide +kernel
def F_X11_accessor (d : Nat) (v0 : Option Nm) (v1 : Int32) (v2 : Int32) (h : MH) (u : Nat) (Q : Int64 → MH → Prop) : Prop :=
  gR h v0 10 0 fun x1 =>
  rc h x1 6 ∧ iR d u_X7_findValue [jR x1, jL (v1.toInt64)] h u fun x2 h u =>
  nl x2 (
    Q (-9223372036854775808) h) (
    gR h x2 9 1 fun x3 =>
    gI h x3 3 1 fun x4 =>
    if x4 = 0 then
      gR h x2 9 2 fun x5 =>
      rc h x5 2 ∧ iI d u_X2_find [jR x5, jI v2] h u fun x6 h u =>
      if x6 = (-1) then
        Q (-9223372036854775808) h
      else
        rc h x2 9 ∧ iL d u_X10_tellPart [jR x2, jI x6] h u fun x7 h u =>
        Q x7 h
    else
      Q (-9223372036854775808) h)
set_option maxRecDepth 20000 in
theorem E_X11_accessor {d : Nat} {v0 : Option Nm} {v1 : Int32} {v2 : Int32} {h : MH} {u : Nat} {Q : Int64 → MH → Prop} (H : F_X11_accessor d v0 v1 v2 h u Q) : T u_X11_accessor (d + 1) 0 [some (jR v0), some (jI v1), some (jI v2), none, none] [] h u (qL Q) := by
  unfold F_X11_accessor at H
  refine T_aload_n (pc := 0) dX11_accessor_0 rfl rfl ?_
  refine T_gR (pc := 1) fa_X11_12 dX11_accessor_1 (gR_mono (fun x1 H => ?_) H)
  refine T_iload_n (pc := 4) dX11_accessor_4 rfl rfl ?_
  refine T_i2l (pc := 5) dX11_accessor_5 ?_
  obtain ⟨H0, H⟩ := H
  refine T_iV (pc := 6) (ci := 6) (av := [jL (v1.toInt64)]) (rest := []) (o := x1) dX11_accessor_6 mf_X7_findValue c_2_63 c_2_64 c_2_65 rfl rfl (Nat.le_of_ble_eq_true rfl) rfl H0 (iR_k (iR_mono (fun x2 h u H => ?_) H))
  refine T_astore_n (pc := 9) (ls2 := [some (jR v0), some (jI v1), some (jI v2), some (jR x2), none]) dX11_accessor_9 rfl (Nat.le_of_ble_eq_true rfl) rfl ?_
  refine T_aload_n (pc := 10) dX11_accessor_10 rfl rfl ?_
  refine T_ifnull (pc := 11) (tgt := 24) dX11_accessor_11 (by decide) (fun ho => ?_) (fun n ho => ?_)
  · replace H := nl_n ho H
    refine T_ldc2 (pc := 24) (v := (-9223372036854775808)) dX11_accessor_24 c_2_54 ?_
    exact T_lreturn (pc := 27) rfl dX11_accessor_27 H
  · replace H := nl_s ho H
    refine T_aload_n (pc := 14) dX11_accessor_14 rfl rfl ?_
    refine T_gR (pc := 15) fa_X11_252 dX11_accessor_15 (gR_mono (fun x3 H => ?_) H)
    refine T_gI (pc := 18) fa_X11_192 dX11_accessor_18 (gI_mono (fun x4 H => ?_) H)
    refine T_if_eq (pc := 21) (tgt := 28) dX11_accessor_21 (by decide) (fun hc => ?_) (fun hc => ?_)
    · rw [if_pos hc] at H
      refine T_aload_n (pc := 28) dX11_accessor_28 rfl rfl ?_
      refine T_gR (pc := 29) fa_X11_264 dX11_accessor_29 (gR_mono (fun x5 H => ?_) H)
      refine T_iload_n (pc := 32) dX11_accessor_32 rfl rfl ?_
      obtain ⟨H0, H⟩ := H
      refine T_iV (pc := 33) (ci := 2) (av := [jI v2]) (rest := []) (o := x5) dX11_accessor_33 mf_X2_find c_2_217 c_2_218 c_2_219 rfl rfl (Nat.le_of_ble_eq_true rfl) rfl H0 (iI_k (iI_mono (fun x6 h u H => ?_) H))
      refine T_istore (pc := 36) (ls2 := [some (jR v0), some (jI v1), some (jI v2), some (jR x2), some (jI x6)]) dX11_accessor_36 (Nat.le_of_ble_eq_true rfl) rfl ?_
      refine T_iload (pc := 38) dX11_accessor_38 rfl ?_
      refine T_iconst (pc := 40) (v := (-1)) dX11_accessor_40 (by decide) ?_
      refine T_icmp_ne (pc := 41) (tgt := 50) dX11_accessor_41 (by decide) (fun hc => ?_) (fun hc => ?_)
      · rw [if_neg hc] at H
        refine T_aload_n (pc := 50) dX11_accessor_50 rfl rfl ?_
        refine T_iload (pc := 51) dX11_accessor_51 rfl ?_
        obtain ⟨H0, H⟩ := H
        refine T_iV (pc := 53) (ci := 9) (av := [jI x6]) (rest := []) (o := x2) dX11_accessor_53 mf_X10_tellPart c_3_232 c_3_233 c_3_234 rfl rfl (Nat.le_of_ble_eq_true rfl) rfl H0 (iL_k (iL_mono (fun x7 h u H => ?_) H))
        exact T_lreturn (pc := 56) rfl dX11_accessor_56 H
      · rw [if_pos hc] at H
        refine T_ldc2 (pc := 44) (v := (-9223372036854775808)) dX11_accessor_44 c_2_54 ?_
        refine T_goto (pc := 47) (tgt := 56) dX11_accessor_47 (by decide) ?_
        exact T_lreturn (pc := 56) rfl dX11_accessor_56 H
    · rw [if_neg hc] at H
      refine T_ldc2 (pc := 24) (v := (-9223372036854775808)) dX11_accessor_24 c_2_54 ?_
      exact T_lreturn (pc := 27) rfl dX11_accessor_27 H
theorem I_X11_accessor {d : Nat} {v0 : Option Nm} {v1 : Int32} {v2 : Int32} {h : MH} {u : Nat} {K : Int64 → MH → Nat → Prop} (u1 : Nat) (hu : u1 ≤ u) (H : F_X11_accessor d v0 v1 v2 h u1 (fun x h2 => K x h2 (u - u1))) : iL (d + 1) u_X11_accessor [jR v0, jI v1, jI v2] h u K := inv.of u1 hu (Ct.of (by decide +kernel) rfl (Nat.le_of_ble_eq_true rfl) rfl (E_X11_accessor H))
theorem dX11_of_0 : decode cX11_of 0 = .ok (.aload_n 0, 1) := by decide +kernel
theorem dX11_of_1 : decode cX11_of 1 = .ok (.getfield 12, 3) := by decide +kernel
theorem dX11_of_4 : decode cX11_of 4 = .ok (.iload_n 1, 1) := by decide +kernel
theorem dX11_of_5 : decode cX11_of 5 = .ok (.i2l, 1) := by decide +kernel
theorem dX11_of_6 : decode cX11_of 6 = .ok (.invokevirtual 118, 3) := by decide +kernel
theorem dX11_of_9 : decode cX11_of 9 = .ok (.astore_n 3, 1) := by decide +kernel
theorem dX11_of_10 : decode cX11_of 10 = .ok (.aload_n 3, 1) := by decide +kernel
theorem dX11_of_11 : decode cX11_of 11 = .ok (.ifnonnull 5, 3) := by decide +kernel
theorem dX11_of_14 : decode cX11_of 14 = .ok (.iconst (-1), 1) := by decide +kernel
theorem dX11_of_15 : decode cX11_of 15 = .ok (.ireturn, 1) := by decide +kernel
theorem dX11_of_16 : decode cX11_of 16 = .ok (.iload_n 2, 1) := by decide +kernel
theorem dX11_of_17 : decode cX11_of 17 = .ok (.tableswitch 75 0 5 #[39, 47, 55, 60, 65, 70], 39) := by decide +kernel
theorem dX11_of_56 : decode cX11_of 56 = .ok (.aload_n 3, 1) := by decide +kernel
theorem dX11_of_57 : decode cX11_of 57 = .ok (.getfield 252, 3) := by decide +kernel
theorem dX11_of_60 : decode cX11_of 60 = .ok (.getfield 268, 3) := by decide +kernel
theorem dX11_of_63 : decode cX11_of 63 = .ok (.ireturn, 1) := by decide +kernel
theorem dX11_of_64 : decode cX11_of 64 = .ok (.aload_n 3, 1) := by decide +kernel
theorem dX11_of_65 : decode cX11_of 65 = .ok (.getfield 264, 3) := by decide +kernel
theorem dX11_of_68 : decode cX11_of 68 = .ok (.getfield 210, 3) := by decide +kernel
theorem dX11_of_71 : decode cX11_of 71 = .ok (.ireturn, 1) := by decide +kernel
theorem dX11_of_72 : decode cX11_of 72 = .ok (.aload_n 3, 1) := by decide +kernel
theorem dX11_of_73 : decode cX11_of 73 = .ok (.getfield 269, 3) := by decide +kernel
theorem dX11_of_76 : decode cX11_of 76 = .ok (.ireturn, 1) := by decide +kernel
theorem dX11_of_77 : decode cX11_of 77 = .ok (.aload_n 3, 1) := by decide +kernel
theorem dX11_of_78 : decode cX11_of 78 = .ok (.getfield 272, 3) := by decide +kernel
theorem dX11_of_81 : decode cX11_of 81 = .ok (.ireturn, 1) := by decide +kernel
theorem dX11_of_82 : decode cX11_of 82 = .ok (.aload_n 3, 1) := by decide +kernel
theorem dX11_of_83 : decode cX11_of 83 = .ok (.getfield 275, 3) := by decide +kernel
theorem dX11_of_86 : decode cX11_of 86 = .ok (.ireturn, 1) := by decide +kernel
theorem dX11_of_87 : decode cX11_of 87 = .ok (.aload_n 3, 1) := by decide +kernel
theorem dX11_of_88 : decode cX11_of 88 = .ok (.getfield 278, 3) := by decide +kernel
theorem dX11_of_91 : decode cX11_of 91 = .ok (.ireturn, 1) := by decide +kernel
theorem dX11_of_92 : decode cX11_of 92 = .ok (.bipush (-2), 2) := by decide +kernel
theorem dX11_of_94 : decode cX11_of 94 = .ok (.ireturn, 1) := by decide +kernel
def F_X11_of (d : Nat) (v0 : Option Nm) (v1 : Int32) (v2 : Int32) (h : MH) (u : Nat) (Q : Int32 → MH → Prop) : Prop :=
  gR h v0 10 0 fun x1 =>
  rc h x1 6 ∧ iR d u_X7_findValue [jR x1, jL (v1.toInt64)] h u fun x2 h u =>
  nl x2 (
    Q (-1) h) (
    if v2 = 0 then
      gR h x2 9 1 fun x3 =>
      gI h x3 3 0 fun x4 =>
      Q x4 h
    else if v2 = 1 then
      gR h x2 9 2 fun x5 =>
      gI h x5 2 0 fun x6 =>
      Q x6 h
    else if v2 = 2 then
      gI h x2 9 6 fun x7 =>
      Q x7 h
    else if v2 = 3 then
      gI h x2 9 3 fun x8 =>
      Q x8 h
    else if v2 = 4 then
      gI h x2 9 4 fun x9 =>
      Q x9 h
    else if v2 = 5 then
      gI h x2 9 7 fun x10 =>
      Q x10 h
    else 
      Q (-2) h)
set_option maxRecDepth 20000 in
theorem E_X11_of {d : Nat} {v0 : Option Nm} {v1 : Int32} {v2 : Int32} {h : MH} {u : Nat} {Q : Int32 → MH → Prop} (H : F_X11_of d v0 v1 v2 h u Q) : T u_X11_of (d + 1) 0 [some (jR v0), some (jI v1), some (jI v2), none] [] h u (qI Q) := by
  unfold F_X11_of at H
  refine T_aload_n (pc := 0) dX11_of_0 rfl rfl ?_
  refine T_gR (pc := 1) fa_X11_12 dX11_of_1 (gR_mono (fun x1 H => ?_) H)
  refine T_iload_n (pc := 4) dX11_of_4 rfl rfl ?_
  refine T_i2l (pc := 5) dX11_of_5 ?_
  obtain ⟨H0, H⟩ := H
  refine T_iV (pc := 6) (ci := 6) (av := [jL (v1.toInt64)]) (rest := []) (o := x1) dX11_of_6 mf_X7_findValue c_2_63 c_2_64 c_2_65 rfl rfl (Nat.le_of_ble_eq_true rfl) rfl H0 (iR_k (iR_mono (fun x2 h u H => ?_) H))
  refine T_astore_n (pc := 9) (ls2 := [some (jR v0), some (jI v1), some (jI v2), some (jR x2)]) dX11_of_9 rfl (Nat.le_of_ble_eq_true rfl) rfl ?_
  refine T_aload_n (pc := 10) dX11_of_10 rfl rfl ?_
  refine T_ifnonnull (pc := 11) (tgt := 16) dX11_of_11 (by decide) (fun ho => ?_) (fun n ho => ?_)
  · replace H := nl_n ho H
    refine T_iconst (pc := 14) (v := (-1)) dX11_of_14 (by decide) ?_
    exact T_ireturn (pc := 15) rfl rfl dX11_of_15 H
  · replace H := nl_s ho H
    refine T_iload_n (pc := 16) dX11_of_16 rfl rfl ?_
    by_cases h0 : v2 = 0
    · rw [if_pos h0] at H
      refine T_tableIn (pc := 17) (off := 39) (tgt := 56) dX11_of_17 (by rw [h0]; decide) (by rw [h0]; decide) (by rw [h0]; rfl) (by decide) ?_
      refine T_aload_n (pc := 56) dX11_of_56 rfl rfl ?_
      refine T_gR (pc := 57) fa_X11_252 dX11_of_57 (gR_mono (fun x3 H => ?_) H)
      refine T_gI (pc := 60) fa_X11_268 dX11_of_60 (gI_mono (fun x4 H => ?_) H)
      exact T_ireturn (pc := 63) rfl rfl dX11_of_63 H
    rw [if_neg h0] at H
    by_cases h1 : v2 = 1
    · rw [if_pos h1] at H
      refine T_tableIn (pc := 17) (off := 47) (tgt := 64) dX11_of_17 (by rw [h1]; decide) (by rw [h1]; decide) (by rw [h1]; rfl) (by decide) ?_
      refine T_aload_n (pc := 64) dX11_of_64 rfl rfl ?_
      refine T_gR (pc := 65) fa_X11_264 dX11_of_65 (gR_mono (fun x5 H => ?_) H)
      refine T_gI (pc := 68) fa_X11_210 dX11_of_68 (gI_mono (fun x6 H => ?_) H)
      exact T_ireturn (pc := 71) rfl rfl dX11_of_71 H
    rw [if_neg h1] at H
    by_cases h2 : v2 = 2
    · rw [if_pos h2] at H
      refine T_tableIn (pc := 17) (off := 55) (tgt := 72) dX11_of_17 (by rw [h2]; decide) (by rw [h2]; decide) (by rw [h2]; rfl) (by decide) ?_
      refine T_aload_n (pc := 72) dX11_of_72 rfl rfl ?_
      refine T_gI (pc := 73) fa_X11_269 dX11_of_73 (gI_mono (fun x7 H => ?_) H)
      exact T_ireturn (pc := 76) rfl rfl dX11_of_76 H
    rw [if_neg h2] at H
    by_cases h3 : v2 = 3
    · rw [if_pos h3] at H
      refine T_tableIn (pc := 17) (off := 60) (tgt := 77) dX11_of_17 (by rw [h3]; decide) (by rw [h3]; decide) (by rw [h3]; rfl) (by decide) ?_
      refine T_aload_n (pc := 77) dX11_of_77 rfl rfl ?_
      refine T_gI (pc := 78) fa_X11_272 dX11_of_78 (gI_mono (fun x8 H => ?_) H)
      exact T_ireturn (pc := 81) rfl rfl dX11_of_81 H
    rw [if_neg h3] at H
    by_cases h4 : v2 = 4
    · rw [if_pos h4] at H
      refine T_tableIn (pc := 17) (off := 65) (tgt := 82) dX11_of_17 (by rw [h4]; decide) (by rw [h4]; decide) (by rw [h4]; rfl) (by decide) ?_
      refine T_aload_n (pc := 82) dX11_of_82 rfl rfl ?_
      refine T_gI (pc := 83) fa_X11_275 dX11_of_83 (gI_mono (fun x9 H => ?_) H)
      exact T_ireturn (pc := 86) rfl rfl dX11_of_86 H
    rw [if_neg h4] at H
    by_cases h5 : v2 = 5
    · rw [if_pos h5] at H
      refine T_tableIn (pc := 17) (off := 70) (tgt := 87) dX11_of_17 (by rw [h5]; decide) (by rw [h5]; decide) (by rw [h5]; rfl) (by decide) ?_
      refine T_aload_n (pc := 87) dX11_of_87 rfl rfl ?_
      refine T_gI (pc := 88) fa_X11_278 dX11_of_88 (gI_mono (fun x10 H => ?_) H)
      exact T_ireturn (pc := 91) rfl rfl dX11_of_91 H
    rw [if_neg h5] at H
    have e0 : (v2 : Int32).toInt ≠ 0 := fun q => h0 (Int32.toInt_inj.mp (q.trans (by decide)))
    have e1 : (v2 : Int32).toInt ≠ 1 := fun q => h1 (Int32.toInt_inj.mp (q.trans (by decide)))
    have e2 : (v2 : Int32).toInt ≠ 2 := fun q => h2 (Int32.toInt_inj.mp (q.trans (by decide)))
    have e3 : (v2 : Int32).toInt ≠ 3 := fun q => h3 (Int32.toInt_inj.mp (q.trans (by decide)))
    have e4 : (v2 : Int32).toInt ≠ 4 := fun q => h4 (Int32.toInt_inj.mp (q.trans (by decide)))
    have e5 : (v2 : Int32).toInt ≠ 5 := fun q => h5 (Int32.toInt_inj.mp (q.trans (by decide)))
    refine T_tableOut (pc := 17) (tgt := 92) dX11_of_17 (by omega) (by decide) ?_
    refine T_bipush (pc := 92) (v := (-2)) dX11_of_92 (by decide) ?_
    exact T_ireturn (pc := 94) rfl rfl dX11_of_94 H
theorem I_X11_of {d : Nat} {v0 : Option Nm} {v1 : Int32} {v2 : Int32} {h : MH} {u : Nat} {K : Int32 → MH → Nat → Prop} (u1 : Nat) (hu : u1 ≤ u) (H : F_X11_of d v0 v1 v2 h u1 (fun x h2 => K x h2 (u - u1))) : iI (d + 1) u_X11_of [jR v0, jI v1, jI v2] h u K := inv.of u1 hu (Ct.of (by decide +kernel) rfl (Nat.le_of_ble_eq_true rfl) rfl (E_X11_of H))
theorem dX11_array_0 : decode cX11_array 0 = .ok (.aload_n 0, 1) := by decide +kernel
theorem dX11_array_1 : decode cX11_array 1 = .ok (.getfield 12, 3) := by decide +kernel
theorem dX11_array_4 : decode cX11_array 4 = .ok (.iload_n 1, 1) := by decide +kernel
theorem dX11_array_5 : decode cX11_array 5 = .ok (.i2l, 1) := by decide +kernel
theorem dX11_array_6 : decode cX11_array 6 = .ok (.invokevirtual 118, 3) := by decide +kernel
theorem dX11_array_9 : decode cX11_array 9 = .ok (.astore 4, 2) := by decide +kernel
theorem dX11_array_11 : decode cX11_array 11 = .ok (.aload 4, 2) := by decide +kernel
theorem dX11_array_13 : decode cX11_array 13 = .ok (.ifnonnull 5, 3) := by decide +kernel
theorem dX11_array_16 : decode cX11_array 16 = .ok (.iconst (-1), 1) := by decide +kernel
theorem dX11_array_17 : decode cX11_array 17 = .ok (.ireturn, 1) := by decide +kernel
theorem dX11_array_18 : decode cX11_array 18 = .ok (.aload 4, 2) := by decide +kernel
theorem dX11_array_20 : decode cX11_array 20 = .ok (.getfield 252, 3) := by decide +kernel
theorem dX11_array_23 : decode cX11_array 23 = .ok (.getfield 192, 3) := by decide +kernel
theorem dX11_array_26 : decode cX11_array 26 = .ok (.ifCond .eq 6, 3) := by decide +kernel
theorem dX11_array_29 : decode cX11_array 29 = .ok (.bipush (-3), 2) := by decide +kernel
theorem dX11_array_31 : decode cX11_array 31 = .ok (.ireturn, 1) := by decide +kernel
theorem dX11_array_32 : decode cX11_array 32 = .ok (.aload 4, 2) := by decide +kernel
theorem dX11_array_34 : decode cX11_array 34 = .ok (.iload_n 2, 1) := by decide +kernel
theorem dX11_array_35 : decode cX11_array 35 = .ok (.invokevirtual 258, 3) := by decide +kernel
theorem dX11_array_38 : decode cX11_array 38 = .ok (.ifCond .ne 9, 3) := by decide +kernel
theorem dX11_array_41 : decode cX11_array 41 = .ok (.aload_n 0, 1) := by decide +kernel
theorem dX11_array_42 : decode cX11_array 42 = .ok (.iconst 2, 1) := by decide +kernel
theorem dX11_array_43 : decode cX11_array 43 = .ok (.invokevirtual 72, 3) := by decide +kernel
theorem dX11_array_46 : decode cX11_array 46 = .ok (.ireturn, 1) := by decide +kernel
theorem dX11_array_47 : decode cX11_array 47 = .ok (.aload 4, 2) := by decide +kernel
theorem dX11_array_49 : decode cX11_array 49 = .ok (.getfield 264, 3) := by decide +kernel
theorem dX11_array_52 : decode cX11_array 52 = .ok (.getfield 281, 3) := by decide +kernel
theorem dX11_array_55 : decode cX11_array 55 = .ok (.iload_n 2, 1) := by decide +kernel
theorem dX11_array_56 : decode cX11_array 56 = .ok (.iaload, 1) := by decide +kernel
theorem dX11_array_57 : decode cX11_array 57 = .ok (.bipush 9, 2) := by decide +kernel
theorem dX11_array_59 : decode cX11_array 59 = .ok (.if_icmp .eq 9, 3) := by decide +kernel
theorem dX11_array_62 : decode cX11_array 62 = .ok (.aload_n 0, 1) := by decide +kernel
theorem dX11_array_63 : decode cX11_array 63 = .ok (.iconst 3, 1) := by decide +kernel
theorem dX11_array_64 : decode cX11_array 64 = .ok (.invokevirtual 72, 3) := by decide +kernel
theorem dX11_array_67 : decode cX11_array 67 = .ok (.ireturn, 1) := by decide +kernel
theorem dX11_array_68 : decode cX11_array 68 = .ok (.aload_n 0, 1) := by decide +kernel
theorem dX11_array_69 : decode cX11_array 69 = .ok (.getfield 12, 3) := by decide +kernel
theorem dX11_array_72 : decode cX11_array 72 = .ok (.aload 4, 2) := by decide +kernel
theorem dX11_array_74 : decode cX11_array 74 = .ok (.getfield 284, 3) := by decide +kernel
theorem dX11_array_77 : decode cX11_array 77 = .ok (.iload_n 2, 1) := by decide +kernel
theorem dX11_array_78 : decode cX11_array 78 = .ok (.laload, 1) := by decide +kernel
theorem dX11_array_79 : decode cX11_array 79 = .ok (.invokevirtual 86, 3) := by decide +kernel
theorem dX11_array_82 : decode cX11_array 82 = .ok (.astore 5, 2) := by decide +kernel
theorem dX11_array_84 : decode cX11_array 84 = .ok (.aload 5, 2) := by decide +kernel
theorem dX11_array_86 : decode cX11_array 86 = .ok (.ifnonnull 9, 3) := by decide +kernel
theorem dX11_array_89 : decode cX11_array 89 = .ok (.aload_n 0, 1) := by decide +kernel
theorem dX11_array_90 : decode cX11_array 90 = .ok (.iconst 1, 1) := by decide +kernel
theorem dX11_array_91 : decode cX11_array 91 = .ok (.invokevirtual 72, 3) := by decide +kernel
theorem dX11_array_94 : decode cX11_array 94 = .ok (.ireturn, 1) := by decide +kernel
theorem dX11_array_95 : decode cX11_array 95 = .ok (.iload_n 3, 1) := by decide +kernel
theorem dX11_array_96 : decode cX11_array 96 = .ok (.ifCond .eq 11, 3) := by decide +kernel
theorem dX11_array_99 : decode cX11_array 99 = .ok (.aload 5, 2) := by decide +kernel
theorem dX11_array_101 : decode cX11_array 101 = .ok (.getfield 80, 3) := by decide +kernel
theorem dX11_array_104 : decode cX11_array 104 = .ok (.goto 9, 3) := by decide +kernel
theorem dX11_array_107 : decode cX11_array 107 = .ok (.aload_n 0, 1) := by decide +kernel
theorem dX11_array_108 : decode cX11_array 108 = .ok (.aload 5, 2) := by decide +kernel
theorem dX11_array_110 : decode cX11_array 110 = .ok (.invokevirtual 147, 3) := by decide +kernel
theorem dX11_array_113 : decode cX11_array 113 = .ok (.ireturn, 1) := by decide +kernel
def F_X11_array (d : Nat) (v0 : Option Nm) (v1 : Int32) (v2 : Int32) (v3 : Int32) (h : MH) (u : Nat) (Q : Int32 → MH → Prop) : Prop :=
  gR h v0 10 0 fun x1 =>
  rc h x1 6 ∧ iR d u_X7_findValue [jR x1, jL (v1.toInt64)] h u fun x2 h u =>
  nl x2 (
    Q (-1) h) (
    gR h x2 9 1 fun x3 =>
    gI h x3 3 1 fun x4 =>
    if x4 = 0 then
      rc h x2 9 ∧ iI d u_X10_hasPart [jR x2, jI v2] h u fun x5 h u =>
      if x5 = 0 then
        rc h v0 10 ∧ iI d u_X11_failed [jR v0, jI 2] h u fun x17 h u =>
        Q x17 h
      else
        gR h x2 9 2 fun x6 =>
        gR h x6 2 2 fun x7 =>
        aI .int h x7 v2 fun x8 =>
        if x8 = 9 then
          gR h v0 10 0 fun x9 =>
          gR h x2 9 5 fun x10 =>
          aL h x10 v2 fun x11 =>
          rc h x9 6 ∧ iR d u_X7_findRow [jR x9, jL x11] h u fun x12 h u =>
          nl x12 (
            rc h v0 10 ∧ iI d u_X11_failed [jR v0, jI 1] h u fun x13 h u =>
            Q x13 h) (
            if v3 = 0 then
              rc h v0 10 ∧ iI d u_X11_freeTwin [jR v0, jR x12] h u fun x14 h u =>
              Q x14 h
            else
              gI h x12 4 0 fun x15 =>
              Q x15 h)
        else
          rc h v0 10 ∧ iI d u_X11_failed [jR v0, jI 3] h u fun x16 h u =>
          Q x16 h
    else
      Q (-3) h)
set_option maxRecDepth 20000 in
theorem E_X11_array {d : Nat} {v0 : Option Nm} {v1 : Int32} {v2 : Int32} {v3 : Int32} {h : MH} {u : Nat} {Q : Int32 → MH → Prop} (H : F_X11_array d v0 v1 v2 v3 h u Q) : T u_X11_array (d + 1) 0 [some (jR v0), some (jI v1), some (jI v2), some (jI v3), none, none] [] h u (qI Q) := by
  unfold F_X11_array at H
  refine T_aload_n (pc := 0) dX11_array_0 rfl rfl ?_
  refine T_gR (pc := 1) fa_X11_12 dX11_array_1 (gR_mono (fun x1 H => ?_) H)
  refine T_iload_n (pc := 4) dX11_array_4 rfl rfl ?_
  refine T_i2l (pc := 5) dX11_array_5 ?_
  obtain ⟨H0, H⟩ := H
  refine T_iV (pc := 6) (ci := 6) (av := [jL (v1.toInt64)]) (rest := []) (o := x1) dX11_array_6 mf_X7_findValue c_2_63 c_2_64 c_2_65 rfl rfl (Nat.le_of_ble_eq_true rfl) rfl H0 (iR_k (iR_mono (fun x2 h u H => ?_) H))
  refine T_astore (pc := 9) (ls2 := [some (jR v0), some (jI v1), some (jI v2), some (jI v3), some (jR x2), none]) dX11_array_9 (Nat.le_of_ble_eq_true rfl) rfl ?_
  refine T_aload (pc := 11) dX11_array_11 rfl ?_
  refine T_ifnonnull (pc := 13) (tgt := 18) dX11_array_13 (by decide) (fun ho => ?_) (fun n ho => ?_)
  · replace H := nl_n ho H
    refine T_iconst (pc := 16) (v := (-1)) dX11_array_16 (by decide) ?_
    exact T_ireturn (pc := 17) rfl rfl dX11_array_17 H
  · replace H := nl_s ho H
    refine T_aload (pc := 18) dX11_array_18 rfl ?_
    refine T_gR (pc := 20) fa_X11_252 dX11_array_20 (gR_mono (fun x3 H => ?_) H)
    refine T_gI (pc := 23) fa_X11_192 dX11_array_23 (gI_mono (fun x4 H => ?_) H)
    refine T_if_eq (pc := 26) (tgt := 32) dX11_array_26 (by decide) (fun hc => ?_) (fun hc => ?_)
    · rw [if_pos hc] at H
      refine T_aload (pc := 32) dX11_array_32 rfl ?_
      refine T_iload_n (pc := 34) dX11_array_34 rfl rfl ?_
      obtain ⟨H0, H⟩ := H
      refine T_iV (pc := 35) (ci := 9) (av := [jI v2]) (rest := []) (o := x2) dX11_array_35 mf_X10_hasPart c_3_228 c_3_229 c_3_230 rfl rfl (Nat.le_of_ble_eq_true rfl) rfl H0 (iI_k (iI_mono (fun x5 h u H => ?_) H))
      refine T_if_ne (pc := 38) (tgt := 47) dX11_array_38 (by decide) (fun hc => ?_) (fun hc => ?_)
      · rw [if_neg hc] at H
        refine T_aload (pc := 47) dX11_array_47 rfl ?_
        refine T_gR (pc := 49) fa_X11_264 dX11_array_49 (gR_mono (fun x6 H => ?_) H)
        refine T_gR (pc := 52) fa_X11_281 dX11_array_52 (gR_mono (fun x7 H => ?_) H)
        refine T_iload_n (pc := 55) dX11_array_55 rfl rfl ?_
        refine T_aI (pc := 56) dX11_array_56 (aI_mono (fun x8 H => ?_) H)
        refine T_bipush (pc := 57) (v := 9) dX11_array_57 (by decide) ?_
        refine T_icmp_eq (pc := 59) (tgt := 68) dX11_array_59 (by decide) (fun hc => ?_) (fun hc => ?_)
        · rw [if_pos hc] at H
          refine T_aload_n (pc := 68) dX11_array_68 rfl rfl ?_
          refine T_gR (pc := 69) fa_X11_12 dX11_array_69 (gR_mono (fun x9 H => ?_) H)
          refine T_aload (pc := 72) dX11_array_72 rfl ?_
          refine T_gR (pc := 74) fa_X11_284 dX11_array_74 (gR_mono (fun x10 H => ?_) H)
          refine T_iload_n (pc := 77) dX11_array_77 rfl rfl ?_
          refine T_aL (pc := 78) dX11_array_78 (aL_mono (fun x11 H => ?_) H)
          obtain ⟨H0, H⟩ := H
          refine T_iV (pc := 79) (ci := 6) (av := [jL x11]) (rest := []) (o := x9) dX11_array_79 mf_X7_findRow c_2_1 c_2_2 c_2_3 rfl rfl (Nat.le_of_ble_eq_true rfl) rfl H0 (iR_k (iR_mono (fun x12 h u H => ?_) H))
          refine T_astore (pc := 82) (ls2 := [some (jR v0), some (jI v1), some (jI v2), some (jI v3), some (jR x2), some (jR x12)]) dX11_array_82 (Nat.le_of_ble_eq_true rfl) rfl ?_
          refine T_aload (pc := 84) dX11_array_84 rfl ?_
          refine T_ifnonnull (pc := 86) (tgt := 95) dX11_array_86 (by decide) (fun ho => ?_) (fun n ho => ?_)
          · replace H := nl_n ho H
            refine T_aload_n (pc := 89) dX11_array_89 rfl rfl ?_
            refine T_iconst (pc := 90) (v := 1) dX11_array_90 (by decide) ?_
            obtain ⟨H0, H⟩ := H
            refine T_iV (pc := 91) (ci := 10) (av := [jI 1]) (rest := []) (o := v0) dX11_array_91 mf_X11_failed c_1_196 c_1_198 pr_X11_failed rfl rfl (Nat.le_of_ble_eq_true rfl) rfl H0 (iI_k (iI_mono (fun x13 h u H => ?_) H))
            exact T_ireturn (pc := 94) rfl rfl dX11_array_94 H
          · replace H := nl_s ho H
            refine T_iload_n (pc := 95) dX11_array_95 rfl rfl ?_
            refine T_if_eq (pc := 96) (tgt := 107) dX11_array_96 (by decide) (fun hc => ?_) (fun hc => ?_)
            · rw [if_pos hc] at H
              refine T_aload_n (pc := 107) dX11_array_107 rfl rfl ?_
              refine T_aload (pc := 108) dX11_array_108 rfl ?_
              obtain ⟨H0, H⟩ := H
              refine T_iV (pc := 110) (ci := 10) (av := [jR x12]) (rest := []) (o := v0) dX11_array_110 mf_X11_freeTwin c_2_101 c_2_103 pr_X11_freeTwin rfl rfl (Nat.le_of_ble_eq_true rfl) rfl H0 (iI_k (iI_mono (fun x14 h u H => ?_) H))
              exact T_ireturn (pc := 113) rfl rfl dX11_array_113 H
            · rw [if_neg hc] at H
              refine T_aload (pc := 99) dX11_array_99 rfl ?_
              refine T_gI (pc := 101) fa_X11_80 dX11_array_101 (gI_mono (fun x15 H => ?_) H)
              refine T_goto (pc := 104) (tgt := 113) dX11_array_104 (by decide) ?_
              exact T_ireturn (pc := 113) rfl rfl dX11_array_113 H
        · rw [if_neg hc] at H
          refine T_aload_n (pc := 62) dX11_array_62 rfl rfl ?_
          refine T_iconst (pc := 63) (v := 3) dX11_array_63 (by decide) ?_
          obtain ⟨H0, H⟩ := H
          refine T_iV (pc := 64) (ci := 10) (av := [jI 3]) (rest := []) (o := v0) dX11_array_64 mf_X11_failed c_1_196 c_1_198 pr_X11_failed rfl rfl (Nat.le_of_ble_eq_true rfl) rfl H0 (iI_k (iI_mono (fun x16 h u H => ?_) H))
          exact T_ireturn (pc := 67) rfl rfl dX11_array_67 H
      · rw [if_pos hc] at H
        refine T_aload_n (pc := 41) dX11_array_41 rfl rfl ?_
        refine T_iconst (pc := 42) (v := 2) dX11_array_42 (by decide) ?_
        obtain ⟨H0, H⟩ := H
        refine T_iV (pc := 43) (ci := 10) (av := [jI 2]) (rest := []) (o := v0) dX11_array_43 mf_X11_failed c_1_196 c_1_198 pr_X11_failed rfl rfl (Nat.le_of_ble_eq_true rfl) rfl H0 (iI_k (iI_mono (fun x17 h u H => ?_) H))
        exact T_ireturn (pc := 46) rfl rfl dX11_array_46 H
    · rw [if_neg hc] at H
      refine T_bipush (pc := 29) (v := (-3)) dX11_array_29 (by decide) ?_
      exact T_ireturn (pc := 31) rfl rfl dX11_array_31 H
theorem I_X11_array {d : Nat} {v0 : Option Nm} {v1 : Int32} {v2 : Int32} {v3 : Int32} {h : MH} {u : Nat} {K : Int32 → MH → Nat → Prop} (u1 : Nat) (hu : u1 ≤ u) (H : F_X11_array d v0 v1 v2 v3 h u1 (fun x h2 => K x h2 (u - u1))) : iI (d + 1) u_X11_array [jR v0, jI v1, jI v2, jI v3] h u K := inv.of u1 hu (Ct.of (by decide +kernel) rfl (Nat.le_of_ble_eq_true rfl) rfl (E_X11_array H))
theorem dX11_match_0 : decode cX11_match 0 = .ok (.aload_n 0, 1) := by decide +kernel
theorem dX11_match_1 : decode cX11_match 1 = .ok (.getfield 12, 3) := by decide +kernel
theorem dX11_match_4 : decode cX11_match 4 = .ok (.iload_n 2, 1) := by decide +kernel
theorem dX11_match_5 : decode cX11_match 5 = .ok (.i2l, 1) := by decide +kernel
theorem dX11_match_6 : decode cX11_match 6 = .ok (.invokevirtual 118, 3) := by decide +kernel
theorem dX11_match_9 : decode cX11_match 9 = .ok (.astore_n 3, 1) := by decide +kernel
theorem dX11_match_10 : decode cX11_match 10 = .ok (.iload_n 1, 1) := by decide +kernel
theorem dX11_match_11 : decode cX11_match 11 = .ok (.iconst 0, 1) := by decide +kernel
theorem dX11_match_12 : decode cX11_match 12 = .ok (.aload_n 0, 1) := by decide +kernel
theorem dX11_match_13 : decode cX11_match 13 = .ok (.getfield 214, 3) := by decide +kernel
theorem dX11_match_16 : decode cX11_match 16 = .ok (.iconst 1, 1) := by decide +kernel
theorem dX11_match_17 : decode cX11_match 17 = .ok (.isub, 1) := by decide +kernel
theorem dX11_match_18 : decode cX11_match 18 = .ok (.invokestatic 64, 3) := by decide +kernel
theorem dX11_match_21 : decode cX11_match 21 = .ok (.ifCond .eq 7, 3) := by decide +kernel
theorem dX11_match_24 : decode cX11_match 24 = .ok (.aload_n 3, 1) := by decide +kernel
theorem dX11_match_25 : decode cX11_match 25 = .ok (.ifnonnull 5, 3) := by decide +kernel
theorem dX11_match_28 : decode cX11_match 28 = .ok (.iconst (-1), 1) := by decide +kernel
theorem dX11_match_29 : decode cX11_match 29 = .ok (.ireturn, 1) := by decide +kernel
theorem dX11_match_30 : decode cX11_match 30 = .ok (.iconst 1, 1) := by decide +kernel
theorem dX11_match_31 : decode cX11_match 31 = .ok (.aload_n 3, 1) := by decide +kernel
theorem dX11_match_32 : decode cX11_match 32 = .ok (.getfield 252, 3) := by decide +kernel
theorem dX11_match_35 : decode cX11_match 35 = .ok (.getfield 268, 3) := by decide +kernel
theorem dX11_match_38 : decode cX11_match 38 = .ok (.ishl, 1) := by decide +kernel
theorem dX11_match_39 : decode cX11_match 39 = .ok (.istore 4, 2) := by decide +kernel
theorem dX11_match_41 : decode cX11_match 41 = .ok (.aload_n 0, 1) := by decide +kernel
theorem dX11_match_42 : decode cX11_match 42 = .ok (.getfield 54, 3) := by decide +kernel
theorem dX11_match_45 : decode cX11_match 45 = .ok (.iload_n 1, 1) := by decide +kernel
theorem dX11_match_46 : decode cX11_match 46 = .ok (.iaload, 1) := by decide +kernel
theorem dX11_match_47 : decode cX11_match 47 = .ok (.iload 4, 2) := by decide +kernel
theorem dX11_match_49 : decode cX11_match 49 = .ok (.iand, 1) := by decide +kernel
theorem dX11_match_50 : decode cX11_match 50 = .ok (.ifCond .ne 20, 3) := by decide +kernel
theorem dX11_match_53 : decode cX11_match 53 = .ok (.aload_n 0, 1) := by decide +kernel
theorem dX11_match_54 : decode cX11_match 54 = .ok (.getfield 58, 3) := by decide +kernel
theorem dX11_match_57 : decode cX11_match 57 = .ok (.iload_n 1, 1) := by decide +kernel
theorem dX11_match_58 : decode cX11_match 58 = .ok (.baload, 1) := by decide +kernel
theorem dX11_match_59 : decode cX11_match 59 = .ok (.ifCond .eq 8, 3) := by decide +kernel
theorem dX11_match_62 : decode cX11_match 62 = .ok (.bipush (-3), 2) := by decide +kernel
theorem dX11_match_64 : decode cX11_match 64 = .ok (.goto 5, 3) := by decide +kernel
theorem dX11_match_67 : decode cX11_match 67 = .ok (.bipush (-5), 2) := by decide +kernel
theorem dX11_match_69 : decode cX11_match 69 = .ok (.ireturn, 1) := by decide +kernel
theorem dX11_match_70 : decode cX11_match 70 = .ok (.aload_n 0, 1) := by decide +kernel
theorem dX11_match_71 : decode cX11_match 71 = .ok (.getfield 54, 3) := by decide +kernel
theorem dX11_match_74 : decode cX11_match 74 = .ok (.iload_n 1, 1) := by decide +kernel
theorem dX11_match_75 : decode cX11_match 75 = .ok (.iaload, 1) := by decide +kernel
theorem dX11_match_76 : decode cX11_match 76 = .ok (.iload 4, 2) := by decide +kernel
theorem dX11_match_78 : decode cX11_match 78 = .ok (.iconst 1, 1) := by decide +kernel
theorem dX11_match_79 : decode cX11_match 79 = .ok (.isub, 1) := by decide +kernel
theorem dX11_match_80 : decode cX11_match 80 = .ok (.iand, 1) := by decide +kernel
theorem dX11_match_81 : decode cX11_match 81 = .ok (.invokestatic 287, 3) := by decide +kernel
theorem dX11_match_84 : decode cX11_match 84 = .ok (.ireturn, 1) := by decide +kernel
def F_X11_match (d : Nat) (v0 : Option Nm) (v1 : Int32) (v2 : Int32) (h : MH) (u : Nat) (Q : Int32 → MH → Prop) : Prop :=
  gR h v0 10 0 fun x1 =>
  rc h x1 6 ∧ iR d u_X7_findValue [jR x1, jL (v2.toInt64)] h u fun x2 h u =>
  gI h v0 10 9 fun x3 =>
  iI d u_X11_isWithin [jI v1, jI 0, jI (x3 - 1)] h u fun x4 h u =>
  if x4 = 0 then
    Q (-1) h
  else
    nl x2 (
      Q (-1) h) (
      gR h x2 9 1 fun x5 =>
      gI h x5 3 0 fun x6 =>
      nm ((1 : Int32) <<< (x6 &&& 31)) fun x7 =>
      gR h v0 10 6 fun x8 =>
      aI .int h x8 v1 fun x9 =>
      if (x9 &&& x7) = 0 then
        gR h v0 10 7 fun x13 =>
        aI .boolean h x13 v1 fun x14 =>
        if x14 = 0 then
          Q (-5) h
        else
          Q (-3) h
      else
        gR h v0 10 6 fun x10 =>
        aI .int h x10 v1 fun x11 =>
        iI d u_J6_bitCount_0f7a4 [jI (x11 &&& (x7 - 1))] h u fun x12 h u =>
        Q x12 h)
set_option maxRecDepth 20000 in
theorem E_X11_match {d : Nat} {v0 : Option Nm} {v1 : Int32} {v2 : Int32} {h : MH} {u : Nat} {Q : Int32 → MH → Prop} (H : F_X11_match d v0 v1 v2 h u Q) : T u_X11_match (d + 1) 0 [some (jR v0), some (jI v1), some (jI v2), none, none] [] h u (qI Q) := by
  unfold F_X11_match at H
  refine T_aload_n (pc := 0) dX11_match_0 rfl rfl ?_
  refine T_gR (pc := 1) fa_X11_12 dX11_match_1 (gR_mono (fun x1 H => ?_) H)
  refine T_iload_n (pc := 4) dX11_match_4 rfl rfl ?_
  refine T_i2l (pc := 5) dX11_match_5 ?_
  obtain ⟨H0, H⟩ := H
  refine T_iV (pc := 6) (ci := 6) (av := [jL (v2.toInt64)]) (rest := []) (o := x1) dX11_match_6 mf_X7_findValue c_2_63 c_2_64 c_2_65 rfl rfl (Nat.le_of_ble_eq_true rfl) rfl H0 (iR_k (iR_mono (fun x2 h u H => ?_) H))
  refine T_astore_n (pc := 9) (ls2 := [some (jR v0), some (jI v1), some (jI v2), some (jR x2), none]) dX11_match_9 rfl (Nat.le_of_ble_eq_true rfl) rfl ?_
  refine T_iload_n (pc := 10) dX11_match_10 rfl rfl ?_
  refine T_iconst (pc := 11) (v := 0) dX11_match_11 (by decide) ?_
  refine T_aload_n (pc := 12) dX11_match_12 rfl rfl ?_
  refine T_gI (pc := 13) fa_X11_214 dX11_match_13 (gI_mono (fun x3 H => ?_) H)
  refine T_iconst (pc := 16) (v := 1) dX11_match_16 (by decide) ?_
  refine T_isub (pc := 17) dX11_match_17 ?_
  refine T_invS (pc := 18) (av := [jI v1, jI 0, jI (x3 - 1)]) (rest := []) dX11_match_18 mf_X11_isWithin c_1_189 c_1_190 rfl (Nat.le_of_ble_eq_true rfl) rfl (iI_k (iI_mono (fun x4 h u H => ?_) H))
  refine T_if_eq (pc := 21) (tgt := 28) dX11_match_21 (by decide) (fun hc => ?_) (fun hc => ?_)
  · rw [if_pos hc] at H
    refine T_iconst (pc := 28) (v := (-1)) dX11_match_28 (by decide) ?_
    exact T_ireturn (pc := 29) rfl rfl dX11_match_29 H
  · rw [if_neg hc] at H
    refine T_aload_n (pc := 24) dX11_match_24 rfl rfl ?_
    refine T_ifnonnull (pc := 25) (tgt := 30) dX11_match_25 (by decide) (fun ho => ?_) (fun n ho => ?_)
    · replace H := nl_n ho H
      refine T_iconst (pc := 28) (v := (-1)) dX11_match_28 (by decide) ?_
      exact T_ireturn (pc := 29) rfl rfl dX11_match_29 H
    · replace H := nl_s ho H
      refine T_iconst (pc := 30) (v := 1) dX11_match_30 (by decide) ?_
      refine T_aload_n (pc := 31) dX11_match_31 rfl rfl ?_
      refine T_gR (pc := 32) fa_X11_252 dX11_match_32 (gR_mono (fun x5 H => ?_) H)
      refine T_gI (pc := 35) fa_X11_268 dX11_match_35 (gI_mono (fun x6 H => ?_) H)
      refine T_ishl (pc := 38) dX11_match_38 ?_
      refine T_istoreK (pc := 39) (i := 0) (I := .nop) (len := 2) (f := fun x7 => [some (jR v0), some (jI v1), some (jI v2), some (jR x2), some (jI x7)]) (fun x7 k => T_istore (pc := 39) dX11_match_39 (Nat.le_of_ble_eq_true rfl) rfl k) (nm_mono (fun x7 H => ?_) H)
      refine T_aload_n (pc := 41) dX11_match_41 rfl rfl ?_
      refine T_gR (pc := 42) fa_X11_54 dX11_match_42 (gR_mono (fun x8 H => ?_) H)
      refine T_iload_n (pc := 45) dX11_match_45 rfl rfl ?_
      refine T_aI (pc := 46) dX11_match_46 (aI_mono (fun x9 H => ?_) H)
      refine T_iload (pc := 47) dX11_match_47 rfl ?_
      refine T_iand (pc := 49) dX11_match_49 ?_
      refine T_if_ne (pc := 50) (tgt := 70) dX11_match_50 (by decide) (fun hc => ?_) (fun hc => ?_)
      · rw [if_neg hc] at H
        refine T_aload_n (pc := 70) dX11_match_70 rfl rfl ?_
        refine T_gR (pc := 71) fa_X11_54 dX11_match_71 (gR_mono (fun x10 H => ?_) H)
        refine T_iload_n (pc := 74) dX11_match_74 rfl rfl ?_
        refine T_aI (pc := 75) dX11_match_75 (aI_mono (fun x11 H => ?_) H)
        refine T_iload (pc := 76) dX11_match_76 rfl ?_
        refine T_iconst (pc := 78) (v := 1) dX11_match_78 (by decide) ?_
        refine T_isub (pc := 79) dX11_match_79 ?_
        refine T_iand (pc := 80) dX11_match_80 ?_
        refine T_invS (pc := 81) (av := [jI (x11 &&& (x7 - 1))]) (rest := []) dX11_match_81 mf_J6_bitCount_0f7a4 c_4_13 c_4_14 rfl (Nat.le_of_ble_eq_true rfl) rfl (iI_k (iI_mono (fun x12 h u H => ?_) H))
        exact T_ireturn (pc := 84) rfl rfl dX11_match_84 H
      · rw [if_pos hc] at H
        refine T_aload_n (pc := 53) dX11_match_53 rfl rfl ?_
        refine T_gR (pc := 54) fa_X11_58 dX11_match_54 (gR_mono (fun x13 H => ?_) H)
        refine T_iload_n (pc := 57) dX11_match_57 rfl rfl ?_
        refine T_aZ (pc := 58) dX11_match_58 (aI_mono (fun x14 H => ?_) H)
        refine T_if_eq (pc := 59) (tgt := 67) dX11_match_59 (by decide) (fun hc => ?_) (fun hc => ?_)
        · rw [if_pos hc] at H
          refine T_bipush (pc := 67) (v := (-5)) dX11_match_67 (by decide) ?_
          exact T_ireturn (pc := 69) rfl rfl dX11_match_69 H
        · rw [if_neg hc] at H
          refine T_bipush (pc := 62) (v := (-3)) dX11_match_62 (by decide) ?_
          refine T_goto (pc := 64) (tgt := 69) dX11_match_64 (by decide) ?_
          exact T_ireturn (pc := 69) rfl rfl dX11_match_69 H
theorem I_X11_match {d : Nat} {v0 : Option Nm} {v1 : Int32} {v2 : Int32} {h : MH} {u : Nat} {K : Int32 → MH → Nat → Prop} (u1 : Nat) (hu : u1 ≤ u) (H : F_X11_match d v0 v1 v2 h u1 (fun x h2 => K x h2 (u - u1))) : iI (d + 1) u_X11_match [jR v0, jI v1, jI v2] h u K := inv.of u1 hu (Ct.of (by decide +kernel) rfl (Nat.le_of_ble_eq_true rfl) rfl (E_X11_match H))
