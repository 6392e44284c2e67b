theorem dX12_show_0 : decode cX12_show 0 = .ok (.aload_n 0, 1) := by decide +kernel
theorem dX12_show_1 : decode cX12_show 1 = .ok (.iload_n 1, 1) := by decide +kernel
theorem dX12_show_2 : decode cX12_show 2 = .ok (.invokevirtual 190, 3) := by decide +kernel
theorem dX12_show_5 : decode cX12_show 5 = .ok (.ifCond .ne 5, 3) := by decide +kernel
theorem dX12_show_8 : decode cX12_show 8 = .ok (.iconst (-1), 1) := by decide +kernel
theorem dX12_show_9 : decode cX12_show 9 = .ok (.ireturn, 1) := by decide +kernel
theorem dX12_show_10 : decode cX12_show 10 = .ok (.aload_n 0, 1) := by decide +kernel
theorem dX12_show_11 : decode cX12_show 11 = .ok (.iconst 0, 1) := by decide +kernel
theorem dX12_show_12 : decode cX12_show 12 = .ok (.putfield 323, 3) := by decide +kernel
theorem dX12_show_15 : decode cX12_show 15 = .ok (.aload_n 0, 1) := by decide +kernel
theorem dX12_show_16 : decode cX12_show 16 = .ok (.iconst 0, 1) := by decide +kernel
theorem dX12_show_17 : decode cX12_show 17 = .ok (.putfield 271, 3) := by decide +kernel
theorem dX12_show_20 : decode cX12_show 20 = .ok (.aload_n 0, 1) := by decide +kernel
theorem dX12_show_21 : decode cX12_show 21 = .ok (.iload_n 1, 1) := by decide +kernel
theorem dX12_show_22 : decode cX12_show 22 = .ok (.invokevirtual 340, 3) := by decide +kernel
theorem dX12_show_25 : decode cX12_show 25 = .ok (.aload_n 0, 1) := by decide +kernel
theorem dX12_show_26 : decode cX12_show 26 = .ok (.getfield 271, 3) := by decide +kernel
theorem dX12_show_29 : decode cX12_show 29 = .ok (.ifCond .le 26, 3) := by decide +kernel
theorem dX12_show_32 : decode cX12_show 32 = .ok (.aload_n 0, 1) := by decide +kernel
theorem dX12_show_33 : decode cX12_show 33 = .ok (.getfield 323, 3) := by decide +kernel
theorem dX12_show_36 : decode cX12_show 36 = .ok (.sipush 4000, 3) := by decide +kernel
theorem dX12_show_39 : decode cX12_show 39 = .ok (.if_icmp .gt 16, 3) := by decide +kernel
theorem dX12_show_42 : decode cX12_show 42 = .ok (.aload_n 0, 1) := by decide +kernel
theorem dX12_show_43 : decode cX12_show 43 = .ok (.aload_n 0, 1) := by decide +kernel
theorem dX12_show_44 : decode cX12_show 44 = .ok (.getfield 271, 3) := by decide +kernel
theorem dX12_show_47 : decode cX12_show 47 = .ok (.iconst 1, 1) := by decide +kernel
theorem dX12_show_48 : decode cX12_show 48 = .ok (.isub, 1) := by decide +kernel
theorem dX12_show_49 : decode cX12_show 49 = .ok (.invokevirtual 346, 3) := by decide +kernel
theorem dX12_show_52 : decode cX12_show 52 = .ok (.goto (-27), 3) := by decide +kernel
theorem dX12_show_55 : decode cX12_show 55 = .ok (.aload_n 0, 1) := by decide +kernel
theorem dX12_show_56 : decode cX12_show 56 = .ok (.getfield 323, 3) := by decide +kernel
theorem dX12_show_59 : decode cX12_show 59 = .ok (.sipush 4000, 3) := by decide +kernel
theorem dX12_show_62 : decode cX12_show 62 = .ok (.if_icmp .le 6, 3) := by decide +kernel
theorem dX12_show_65 : decode cX12_show 65 = .ok (.bipush (-4), 2) := by decide +kernel
theorem dX12_show_67 : decode cX12_show 67 = .ok (.ireturn, 1) := by decide +kernel
theorem dX12_show_68 : decode cX12_show 68 = .ok (.iconst 0, 1) := by decide +kernel
theorem dX12_show_69 : decode cX12_show 69 = .ok (.istore_n 2, 1) := by decide +kernel
theorem dX12_show_70 : decode cX12_show 70 = .ok (.iload_n 2, 1) := by decide +kernel
theorem dX12_show_71 : decode cX12_show 71 = .ok (.aload_n 0, 1) := by decide +kernel
theorem dX12_show_72 : decode cX12_show 72 = .ok (.getfield 323, 3) := by decide +kernel
theorem dX12_show_75 : decode cX12_show 75 = .ok (.if_icmp .ge 21, 3) := by decide +kernel
theorem dX12_show_78 : decode cX12_show 78 = .ok (.aload_n 0, 1) := by decide +kernel
theorem dX12_show_79 : decode cX12_show 79 = .ok (.getfield 112, 3) := by decide +kernel
theorem dX12_show_82 : decode cX12_show 82 = .ok (.iload_n 2, 1) := by decide +kernel
theorem dX12_show_83 : decode cX12_show 83 = .ok (.aload_n 0, 1) := by decide +kernel
theorem dX12_show_84 : decode cX12_show 84 = .ok (.getfield 108, 3) := by decide +kernel
theorem dX12_show_87 : decode cX12_show 87 = .ok (.iload_n 2, 1) := by decide +kernel
theorem dX12_show_88 : decode cX12_show 88 = .ok (.baload, 1) := by decide +kernel
theorem dX12_show_89 : decode cX12_show 89 = .ok (.bastore, 1) := by decide +kernel
theorem dX12_show_90 : decode cX12_show 90 = .ok (.iinc 2 1, 3) := by decide +kernel
theorem dX12_show_93 : decode cX12_show 93 = .ok (.goto (-23), 3) := by decide +kernel
theorem dX12_show_96 : decode cX12_show 96 = .ok (.aload_n 0, 1) := by decide +kernel
theorem dX12_show_97 : decode cX12_show 97 = .ok (.aload_n 0, 1) := by decide +kernel
theorem dX12_show_98 : decode cX12_show 98 = .ok (.getfield 323, 3) := by decide +kernel
theorem dX12_show_101 : decode cX12_show 101 = .ok (.putfield 349, 3) := by decide +kernel
theorem dX12_show_104 : decode cX12_show 104 = .ok (.aload_n 0, 1) := by decide +kernel
theorem dX12_show_105 : decode cX12_show 105 = .ok (.getfield 349, 3) := by decide +kernel
theorem dX12_show_108 : decode cX12_show 108 = .ok (.ireturn, 1) := by decide +kernel
def L_X12_show_25 (d : Nat) (v0 : Option Nm) (h : MH) (u : Nat) (Q : Int32 → MH → Prop) : Prop := T u_X12_show (d + 1) 25 [some (jR v0), none, none] [] h u (qI Q)
def L_X12_show_70 (d : Nat) (v0 : Option Nm) (v2 : Int32) (h : MH) (u : Nat) (Q : Int32 → MH → Prop) : Prop := T u_X12_show (d + 1) 70 [some (jR v0), none, some (jI v2)] [] h u (qI Q)
def F_X12_show (d : Nat) (v0 : Option Nm) (v1 : Int32) (h : MH) (u : Nat) (Q : Int32 → MH → Prop) : Prop :=
  rc h v0 11 ∧ iI d u_X12_isValue [jR v0, jI v1] h u fun x1 h u =>
  if x1 = 0 then
    Q (-1) h
  else
    pV h v0 11 43 (jI 0) fun h =>
    pV h v0 11 35 (jI 0) fun h =>
    rc h v0 11 ∧ iV d u_X12_saysThing [jR v0, jI v1] h u fun h u =>
    L_X12_show_25 d v0 h u Q
set_option maxRecDepth 20000 in
theorem E_X12_show {d : Nat} {v0 : Option Nm} {v1 : Int32} {h : MH} {u : Nat} {Q : Int32 → MH → Prop} (H : F_X12_show d v0 v1 h u Q) : T u_X12_show (d + 1) 0 [some (jR v0), some (jI v1), none] [] h u (qI Q) := by
  unfold F_X12_show at H
  refine T_aload_n (pc := 0) dX12_show_0 rfl rfl ?_
  refine T_iload_n (pc := 1) dX12_show_1 rfl rfl ?_
  obtain ⟨H0, H⟩ := H
  refine T_iV (pc := 2) (ci := 11) (av := [jI v1]) (rest := []) (o := v0) dX12_show_2 mf_X12_isValue c_5_155 c_5_157 pr_X12_isValue rfl rfl (Nat.le_of_ble_eq_true rfl) rfl H0 (iI_k (iI_mono (fun x1 h u H => ?_) H))
  refine T_if_ne (pc := 5) (tgt := 10) dX12_show_5 (by decide) (fun hc => ?_) (fun hc => ?_)
  · rw [if_neg hc] at H
    refine T_aload_n (pc := 10) dX12_show_10 rfl rfl ?_
    refine T_iconst (pc := 11) (v := 0) dX12_show_11 (by decide) ?_
    refine T_pV (pc := 12) fa_X12_323 dX12_show_12 trivial (pV_mono (fun h H => ?_) H)
    refine T_aload_n (pc := 15) dX12_show_15 rfl rfl ?_
    refine T_iconst (pc := 16) (v := 0) dX12_show_16 (by decide) ?_
    refine T_pV (pc := 17) fa_X12_271 dX12_show_17 trivial (pV_mono (fun h H => ?_) H)
    refine T_aload_n (pc := 20) dX12_show_20 rfl rfl ?_
    refine T_iload_n (pc := 21) dX12_show_21 rfl rfl ?_
    obtain ⟨H0, H⟩ := H
    refine T_iV (pc := 22) (ci := 11) (av := [jI v1]) (rest := []) (o := v0) dX12_show_22 mf_X12_saysThing c_6_151 c_6_153 pr_X12_saysThing rfl rfl (Nat.le_of_ble_eq_true rfl) rfl H0 (iV_k (iV_mono (fun h u H => ?_) H))
    exact T.forget H ⟨rfl, trivial⟩
  · rw [if_pos hc] at H
    refine T_iconst (pc := 8) (v := (-1)) dX12_show_8 (by decide) ?_
    exact T_ireturn (pc := 9) rfl rfl dX12_show_9 H
def F_X12_show_25 (d : Nat) (v0 : Option Nm) (h : MH) (u : Nat) (Q : Int32 → MH → Prop) : Prop :=
  gI h v0 11 35 fun x1 =>
  if x1 ≤ 0 then
    gI h v0 11 43 fun x2 =>
    if x2 ≤ 4000 then
      L_X12_show_70 d v0 0 h u Q
    else
      Q (-4) h
  else
    gI h v0 11 43 fun x3 =>
    if 4000 < x3 then
      gI h v0 11 43 fun x4 =>
      if x4 ≤ 4000 then
        L_X12_show_70 d v0 0 h u Q
      else
        Q (-4) h
    else
      gI h v0 11 35 fun x5 =>
      rc h v0 11 ∧ iV d u_X12_saysNext [jR v0, jI (x5 - 1)] h u fun h u =>
      L_X12_show_25 d v0 h u Q
set_option maxRecDepth 20000 in
theorem E_X12_show_25 {d : Nat} {v0 : Option Nm} {h : MH} {u : Nat} {Q : Int32 → MH → Prop} (H : F_X12_show_25 d v0 h u Q) : T u_X12_show (d + 1) 25 [some (jR v0), none, none] [] h u (qI Q) := by
  unfold F_X12_show_25 at H
  refine T_aload_n (pc := 25) dX12_show_25 rfl rfl ?_
  refine T_gI (pc := 26) fa_X12_271 dX12_show_26 (gI_mono (fun x1 H => ?_) H)
  refine T_if_le (pc := 29) (tgt := 55) dX12_show_29 (by decide) (fun hc => ?_) (fun hc => ?_)
  · rw [if_pos hc] at H
    refine T_aload_n (pc := 55) dX12_show_55 rfl rfl ?_
    refine T_gI (pc := 56) fa_X12_323 dX12_show_56 (gI_mono (fun x2 H => ?_) H)
    refine T_sipush (pc := 59) (v := 4000) dX12_show_59 (by decide) ?_
    refine T_icmp_le (pc := 62) (tgt := 68) dX12_show_62 (by decide) (fun hc => ?_) (fun hc => ?_)
    · rw [if_pos hc] at H
      refine T_iconst (pc := 68) (v := 0) dX12_show_68 (by decide) ?_
      refine T_istore_n (pc := 69) (ls2 := [some (jR v0), none, some (jI 0)]) dX12_show_69 rfl (Nat.le_of_ble_eq_true rfl) rfl ?_
      exact T.forget H ⟨rfl, rfl, trivial⟩
    · rw [if_neg hc] at H
      refine T_bipush (pc := 65) (v := (-4)) dX12_show_65 (by decide) ?_
      exact T_ireturn (pc := 67) rfl rfl dX12_show_67 H
  · rw [if_neg hc] at H
    refine T_aload_n (pc := 32) dX12_show_32 rfl rfl ?_
    refine T_gI (pc := 33) fa_X12_323 dX12_show_33 (gI_mono (fun x3 H => ?_) H)
    refine T_sipush (pc := 36) (v := 4000) dX12_show_36 (by decide) ?_
    refine T_icmp_gt (pc := 39) (tgt := 55) dX12_show_39 (by decide) (fun hc => ?_) (fun hc => ?_)
    · rw [if_pos hc] at H
      refine T_aload_n (pc := 55) dX12_show_55 rfl rfl ?_
      refine T_gI (pc := 56) fa_X12_323 dX12_show_56 (gI_mono (fun x4 H => ?_) H)
      refine T_sipush (pc := 59) (v := 4000) dX12_show_59 (by decide) ?_
      refine T_icmp_le (pc := 62) (tgt := 68) dX12_show_62 (by decide) (fun hc => ?_) (fun hc => ?_)
      · rw [if_pos hc] at H
        refine T_iconst (pc := 68) (v := 0) dX12_show_68 (by decide) ?_
        refine T_istore_n (pc := 69) (ls2 := [some (jR v0), none, some (jI 0)]) dX12_show_69 rfl (Nat.le_of_ble_eq_true rfl) rfl ?_
        exact T.forget H ⟨rfl, rfl, trivial⟩
      · rw [if_neg hc] at H
        refine T_bipush (pc := 65) (v := (-4)) dX12_show_65 (by decide) ?_
        exact T_ireturn (pc := 67) rfl rfl dX12_show_67 H
    · rw [if_neg hc] at H
      refine T_aload_n (pc := 42) dX12_show_42 rfl rfl ?_
      refine T_aload_n (pc := 43) dX12_show_43 rfl rfl ?_
      refine T_gI (pc := 44) fa_X12_271 dX12_show_44 (gI_mono (fun x5 H => ?_) H)
      refine T_iconst (pc := 47) (v := 1) dX12_show_47 (by decide) ?_
      refine T_isub (pc := 48) dX12_show_48 ?_
      obtain ⟨H0, H⟩ := H
      refine T_iV (pc := 49) (ci := 11) (av := [jI (x5 - 1)]) (rest := []) (o := v0) dX12_show_49 mf_X12_saysNext c_6_165 c_6_167 pr_X12_saysNext rfl rfl (Nat.le_of_ble_eq_true rfl) rfl H0 (iV_k (iV_mono (fun h u H => ?_) H))
      refine T_goto (pc := 52) (tgt := 25) dX12_show_52 (by decide) ?_
      exact T.forget H ⟨rfl, trivial⟩
def F_X12_show_70 (d : Nat) (v0 : Option Nm) (v2 : Int32) (h : MH) (u : Nat) (Q : Int32 → MH → Prop) : Prop :=
  gI h v0 11 43 fun x1 =>
  if x1 ≤ v2 then
    gI h v0 11 43 fun x2 =>
    pV h v0 11 45 (jI x2) fun h =>
    gI h v0 11 45 fun x3 =>
    Q x3 h
  else
    gR h v0 11 44 fun x4 =>
    gR h v0 11 42 fun x5 =>
    aI .byte h x5 v2 fun x6 =>
    sV .byte h x4 v2 (jI x6.toInt8.toInt32) fun h =>
    L_X12_show_70 d v0 (v2 + 1) h u Q
set_option maxRecDepth 20000 in
theorem E_X12_show_70 {d : Nat} {v0 : Option Nm} {v2 : Int32} {h : MH} {u : Nat} {Q : Int32 → MH → Prop} (H : F_X12_show_70 d v0 v2 h u Q) : T u_X12_show (d + 1) 70 [some (jR v0), none, some (jI v2)] [] h u (qI Q) := by
  unfold F_X12_show_70 at H
  refine T_iload_n (pc := 70) dX12_show_70 rfl rfl ?_
  refine T_aload_n (pc := 71) dX12_show_71 rfl rfl ?_
  refine T_gI (pc := 72) fa_X12_323 dX12_show_72 (gI_mono (fun x1 H => ?_) H)
  refine T_icmp_ge (pc := 75) (tgt := 96) dX12_show_75 (by decide) (fun hc => ?_) (fun hc => ?_)
  · rw [if_pos hc] at H
    refine T_aload_n (pc := 96) dX12_show_96 rfl rfl ?_
    refine T_aload_n (pc := 97) dX12_show_97 rfl rfl ?_
    refine T_gI (pc := 98) fa_X12_323 dX12_show_98 (gI_mono (fun x2 H => ?_) H)
    refine T_pV (pc := 101) fa_X12_349 dX12_show_101 trivial (pV_mono (fun h H => ?_) H)
    refine T_aload_n (pc := 104) dX12_show_104 rfl rfl ?_
    refine T_gI (pc := 105) fa_X12_349 dX12_show_105 (gI_mono (fun x3 H => ?_) H)
    exact T_ireturn (pc := 108) rfl rfl dX12_show_108 H
  · rw [if_neg hc] at H
    refine T_aload_n (pc := 78) dX12_show_78 rfl rfl ?_
    refine T_gR (pc := 79) fa_X12_112 dX12_show_79 (gR_mono (fun x4 H => ?_) H)
    refine T_iload_n (pc := 82) dX12_show_82 rfl rfl ?_
    refine T_aload_n (pc := 83) dX12_show_83 rfl rfl ?_
    refine T_gR (pc := 84) fa_X12_108 dX12_show_84 (gR_mono (fun x5 H => ?_) H)
    refine T_iload_n (pc := 87) dX12_show_87 rfl rfl ?_
    refine T_aB (pc := 88) dX12_show_88 (aI_mono (fun x6 H => ?_) H)
    refine T_sB (pc := 89) dX12_show_89 (sV_mono (fun h H => ?_) H)
    refine T_iinc (pc := 90) (v := v2 + 1) (ls2 := [some (jR v0), none, some (jI (v2 + 1))]) dX12_show_90 rfl rfl (Nat.le_of_ble_eq_true rfl) rfl ?_
    refine T_goto (pc := 93) (tgt := 70) dX12_show_93 (by decide) ?_
    exact T.forget H ⟨rfl, rfl, trivial⟩
theorem I_X12_show {d : Nat} {v0 : Option Nm} {v1 : Int32} {h : MH} {u : Nat} {K : Int32 → MH → Nat → Prop} (u1 : Nat) (hu : u1 ≤ u) (H : F_X12_show d v0 v1 h u1 (fun x h2 => K x h2 (u - u1))) : iI (d + 1) u_X12_show [jR v0, jI v1] h u K := inv.of u1 hu (Ct.of (by decide +kernel) rfl (Nat.le_of_ble_eq_true rfl) rfl (E_X12_show H))
theorem dX12_byteAt_0 : decode cX12_byteAt 0 = .ok (.iload_n 1, 1) := by decide +kernel
theorem dX12_byteAt_1 : decode cX12_byteAt 1 = .ok (.iconst 0, 1) := by decide +kernel
theorem dX12_byteAt_2 : decode cX12_byteAt 2 = .ok (.aload_n 0, 1) := by decide +kernel
theorem dX12_byteAt_3 : decode cX12_byteAt 3 = .ok (.getfield 349, 3) := by decide +kernel
theorem dX12_byteAt_6 : decode cX12_byteAt 6 = .ok (.iconst 1, 1) := by decide +kernel
theorem dX12_byteAt_7 : decode cX12_byteAt 7 = .ok (.isub, 1) := by decide +kernel
theorem dX12_byteAt_8 : decode cX12_byteAt 8 = .ok (.invokestatic 156, 3) := by decide +kernel
theorem dX12_byteAt_11 : decode cX12_byteAt 11 = .ok (.ifCond .eq 12, 3) := by decide +kernel
theorem dX12_byteAt_14 : decode cX12_byteAt 14 = .ok (.aload_n 0, 1) := by decide +kernel
theorem dX12_byteAt_15 : decode cX12_byteAt 15 = .ok (.getfield 112, 3) := by decide +kernel
theorem dX12_byteAt_18 : decode cX12_byteAt 18 = .ok (.iload_n 1, 1) := by decide +kernel
theorem dX12_byteAt_19 : decode cX12_byteAt 19 = .ok (.baload, 1) := by decide +kernel
theorem dX12_byteAt_20 : decode cX12_byteAt 20 = .ok (.goto 5, 3) := by decide +kernel
theorem dX12_byteAt_23 : decode cX12_byteAt 23 = .ok (.bipush (-5), 2) := by decide +kernel
theorem dX12_byteAt_25 : decode cX12_byteAt 25 = .ok (.ireturn, 1) := by decide +kernel
def F_X12_byteAt (d : Nat) (v0 : Option Nm) (v1 : Int32) (h : MH) (u : Nat) (Q : Int32 → MH → Prop) : Prop :=
  gI h v0 11 45 fun x1 =>
  iI d u_X12_in [jI v1, jI 0, jI (x1 - 1)] h u fun x2 h u =>
  if x2 = 0 then
    Q (-5) h
  else
    gR h v0 11 44 fun x3 =>
    aI .byte h x3 v1 fun x4 =>
    Q x4 h
set_option maxRecDepth 20000 in
theorem E_X12_byteAt {d : Nat} {v0 : Option Nm} {v1 : Int32} {h : MH} {u : Nat} {Q : Int32 → MH → Prop} (H : F_X12_byteAt d v0 v1 h u Q) : T u_X12_byteAt (d + 1) 0 [some (jR v0), some (jI v1)] [] h u (qI Q) := by
  unfold F_X12_byteAt at H
  refine T_iload_n (pc := 0) dX12_byteAt_0 rfl rfl ?_
  refine T_iconst (pc := 1) (v := 0) dX12_byteAt_1 (by decide) ?_
  refine T_aload_n (pc := 2) dX12_byteAt_2 rfl rfl ?_
  refine T_gI (pc := 3) fa_X12_349 dX12_byteAt_3 (gI_mono (fun x1 H => ?_) H)
  refine T_iconst (pc := 6) (v := 1) dX12_byteAt_6 (by decide) ?_
  refine T_isub (pc := 7) dX12_byteAt_7 ?_
  refine T_invS (pc := 8) (av := [jI v1, jI 0, jI (x1 - 1)]) (rest := []) dX12_byteAt_8 mf_X12_in c_5_86 c_5_87 rfl (Nat.le_of_ble_eq_true rfl) rfl (iI_k (iI_mono (fun x2 h u H => ?_) H))
  refine T_if_eq (pc := 11) (tgt := 23) dX12_byteAt_11 (by decide) (fun hc => ?_) (fun hc => ?_)
  · rw [if_pos hc] at H
    refine T_bipush (pc := 23) (v := (-5)) dX12_byteAt_23 (by decide) ?_
    exact T_ireturn (pc := 25) rfl rfl dX12_byteAt_25 H
  · rw [if_neg hc] at H
    refine T_aload_n (pc := 14) dX12_byteAt_14 rfl rfl ?_
    refine T_gR (pc := 15) fa_X12_112 dX12_byteAt_15 (gR_mono (fun x3 H => ?_) H)
    refine T_iload_n (pc := 18) dX12_byteAt_18 rfl rfl ?_
    refine T_aB (pc := 19) dX12_byteAt_19 (aI_mono (fun x4 H => ?_) H)
    refine T_goto (pc := 20) (tgt := 25) dX12_byteAt_20 (by decide) ?_
    exact T_ireturn (pc := 25) rfl rfl dX12_byteAt_25 H
theorem I_X12_byteAt {d : Nat} {v0 : Option Nm} {v1 : Int32} {h : MH} {u : Nat} {K : Int32 → MH → Nat → Prop} (u1 : Nat) (hu : u1 ≤ u) (H : F_X12_byteAt d v0 v1 h u1 (fun x h2 => K x h2 (u - u1))) : iI (d + 1) u_X12_byteAt [jR v0, jI v1] h u K := inv.of u1 hu (Ct.of (by decide +kernel) rfl (Nat.le_of_ble_eq_true rfl) rfl (E_X12_byteAt H))
theorem dX12_carry_0 : decode cX12_carry 0 = .ok (.aload_n 0, 1) := by decide +kernel
theorem dX12_carry_1 : decode cX12_carry 1 = .ok (.iload_n 1, 1) := by decide +kernel
theorem dX12_carry_2 : decode cX12_carry 2 = .ok (.invokevirtual 190, 3) := by decide +kernel
theorem dX12_carry_5 : decode cX12_carry 5 = .ok (.ifCond .ne 5, 3) := by decide +kernel
theorem dX12_carry_8 : decode cX12_carry 8 = .ok (.iconst (-1), 1) := by decide +kernel
theorem dX12_carry_9 : decode cX12_carry 9 = .ok (.ireturn, 1) := by decide +kernel
theorem dX12_carry_10 : decode cX12_carry 10 = .ok (.aload_n 0, 1) := by decide +kernel
theorem dX12_carry_11 : decode cX12_carry 11 = .ok (.getfield 66, 3) := by decide +kernel
theorem dX12_carry_14 : decode cX12_carry 14 = .ok (.iload_n 1, 1) := by decide +kernel
theorem dX12_carry_15 : decode cX12_carry 15 = .ok (.iaload, 1) := by decide +kernel
theorem dX12_carry_16 : decode cX12_carry 16 = .ok (.istore_n 2, 1) := by decide +kernel
theorem dX12_carry_17 : decode cX12_carry 17 = .ok (.aload_n 0, 1) := by decide +kernel
theorem dX12_carry_18 : decode cX12_carry 18 = .ok (.iload_n 2, 1) := by decide +kernel
theorem dX12_carry_19 : decode cX12_carry 19 = .ok (.invokevirtual 225, 3) := by decide +kernel
theorem dX12_carry_22 : decode cX12_carry 22 = .ok (.istore_n 3, 1) := by decide +kernel
theorem dX12_carry_23 : decode cX12_carry 23 = .ok (.aload_n 0, 1) := by decide +kernel
theorem dX12_carry_24 : decode cX12_carry 24 = .ok (.iload_n 1, 1) := by decide +kernel
theorem dX12_carry_25 : decode cX12_carry 25 = .ok (.invokevirtual 261, 3) := by decide +kernel
theorem dX12_carry_28 : decode cX12_carry 28 = .ok (.ifCond .eq 24, 3) := by decide +kernel
theorem dX12_carry_31 : decode cX12_carry 31 = .ok (.aload_n 0, 1) := by decide +kernel
theorem dX12_carry_32 : decode cX12_carry 32 = .ok (.iload_n 3, 1) := by decide +kernel
theorem dX12_carry_33 : decode cX12_carry 33 = .ok (.aload_n 0, 1) := by decide +kernel
theorem dX12_carry_34 : decode cX12_carry 34 = .ok (.getfield 81, 3) := by decide +kernel
theorem dX12_carry_37 : decode cX12_carry 37 = .ok (.iload_n 1, 1) := by decide +kernel
theorem dX12_carry_38 : decode cX12_carry 38 = .ok (.iaload, 1) := by decide +kernel
theorem dX12_carry_39 : decode cX12_carry 39 = .ok (.invokevirtual 209, 3) := by decide +kernel
theorem dX12_carry_42 : decode cX12_carry 42 = .ok (.ifCond .ge 8, 3) := by decide +kernel
theorem dX12_carry_45 : decode cX12_carry 45 = .ok (.bipush (-3), 2) := by decide +kernel
theorem dX12_carry_47 : decode cX12_carry 47 = .ok (.goto 4, 3) := by decide +kernel
theorem dX12_carry_50 : decode cX12_carry 50 = .ok (.iload_n 1, 1) := by decide +kernel
theorem dX12_carry_51 : decode cX12_carry 51 = .ok (.ireturn, 1) := by decide +kernel
theorem dX12_carry_52 : decode cX12_carry 52 = .ok (.aload_n 0, 1) := by decide +kernel
theorem dX12_carry_53 : decode cX12_carry 53 = .ok (.getfield 215, 3) := by decide +kernel
theorem dX12_carry_56 : decode cX12_carry 56 = .ok (.sipush 200, 3) := by decide +kernel
theorem dX12_carry_59 : decode cX12_carry 59 = .ok (.if_icmp .ne 6, 3) := by decide +kernel
theorem dX12_carry_62 : decode cX12_carry 62 = .ok (.bipush (-4), 2) := by decide +kernel
theorem dX12_carry_64 : decode cX12_carry 64 = .ok (.ireturn, 1) := by decide +kernel
theorem dX12_carry_65 : decode cX12_carry 65 = .ok (.iconst 0, 1) := by decide +kernel
theorem dX12_carry_66 : decode cX12_carry 66 = .ok (.istore 4, 2) := by decide +kernel
theorem dX12_carry_68 : decode cX12_carry 68 = .ok (.iload 4, 2) := by decide +kernel
theorem dX12_carry_70 : decode cX12_carry 70 = .ok (.aload_n 0, 1) := by decide +kernel
theorem dX12_carry_71 : decode cX12_carry 71 = .ok (.getfield 42, 3) := by decide +kernel
theorem dX12_carry_74 : decode cX12_carry 74 = .ok (.iload_n 3, 1) := by decide +kernel
theorem dX12_carry_75 : decode cX12_carry 75 = .ok (.iaload, 1) := by decide +kernel
theorem dX12_carry_76 : decode cX12_carry 76 = .ok (.if_icmp .ge 126, 3) := by decide +kernel
theorem dX12_carry_79 : decode cX12_carry 79 = .ok (.aload_n 0, 1) := by decide +kernel
theorem dX12_carry_80 : decode cX12_carry 80 = .ok (.getfield 48, 3) := by decide +kernel
theorem dX12_carry_83 : decode cX12_carry 83 = .ok (.bipush 8, 2) := by decide +kernel
theorem dX12_carry_85 : decode cX12_carry 85 = .ok (.iload_n 3, 1) := by decide +kernel
theorem dX12_carry_86 : decode cX12_carry 86 = .ok (.imul, 1) := by decide +kernel
theorem dX12_carry_87 : decode cX12_carry 87 = .ok (.iload 4, 2) := by decide +kernel
theorem dX12_carry_89 : decode cX12_carry 89 = .ok (.iadd, 1) := by decide +kernel
theorem dX12_carry_90 : decode cX12_carry 90 = .ok (.iaload, 1) := by decide +kernel
theorem dX12_carry_91 : decode cX12_carry 91 = .ok (.istore 5, 2) := by decide +kernel
theorem dX12_carry_93 : decode cX12_carry 93 = .ok (.aload_n 0, 1) := by decide +kernel
theorem dX12_carry_94 : decode cX12_carry 94 = .ok (.aload_n 0, 1) := by decide +kernel
theorem dX12_carry_95 : decode cX12_carry 95 = .ok (.iload_n 1, 1) := by decide +kernel
theorem dX12_carry_96 : decode cX12_carry 96 = .ok (.invokevirtual 231, 3) := by decide +kernel
theorem dX12_carry_99 : decode cX12_carry 99 = .ok (.aload_n 0, 1) := by decide +kernel
theorem dX12_carry_100 : decode cX12_carry 100 = .ok (.getfield 45, 3) := by decide +kernel
theorem dX12_carry_103 : decode cX12_carry 103 = .ok (.bipush 8, 2) := by decide +kernel
theorem dX12_carry_105 : decode cX12_carry 105 = .ok (.iload_n 3, 1) := by decide +kernel
theorem dX12_carry_106 : decode cX12_carry 106 = .ok (.imul, 1) := by decide +kernel
theorem dX12_carry_107 : decode cX12_carry 107 = .ok (.iload 4, 2) := by decide +kernel
theorem dX12_carry_109 : decode cX12_carry 109 = .ok (.iadd, 1) := by decide +kernel
theorem dX12_carry_110 : decode cX12_carry 110 = .ok (.iaload, 1) := by decide +kernel
theorem dX12_carry_111 : decode cX12_carry 111 = .ok (.invokevirtual 209, 3) := by decide +kernel
theorem dX12_carry_114 : decode cX12_carry 114 = .ok (.istore 6, 2) := by decide +kernel
theorem dX12_carry_116 : decode cX12_carry 116 = .ok (.iload 6, 2) := by decide +kernel
theorem dX12_carry_118 : decode cX12_carry 118 = .ok (.ifCond .ge 27, 3) := by decide +kernel
theorem dX12_carry_121 : decode cX12_carry 121 = .ok (.aload_n 0, 1) := by decide +kernel
theorem dX12_carry_122 : decode cX12_carry 122 = .ok (.getfield 87, 3) := by decide +kernel
theorem dX12_carry_125 : decode cX12_carry 125 = .ok (.iload 4, 2) := by decide +kernel
theorem dX12_carry_127 : decode cX12_carry 127 = .ok (.iload 5, 2) := by decide +kernel
theorem dX12_carry_129 : decode cX12_carry 129 = .ok (.bipush 8, 2) := by decide +kernel
theorem dX12_carry_131 : decode cX12_carry 131 = .ok (.if_icmp .ge 7, 3) := by decide +kernel
theorem dX12_carry_134 : decode cX12_carry 134 = .ok (.lconst 0, 1) := by decide +kernel
theorem dX12_carry_135 : decode cX12_carry 135 = .ok (.goto 6, 3) := by decide +kernel
theorem dX12_carry_138 : decode cX12_carry 138 = .ok (.ldc2_w 160, 3) := by decide +kernel
theorem dX12_carry_141 : decode cX12_carry 141 = .ok (.lastore, 1) := by decide +kernel
theorem dX12_carry_142 : decode cX12_carry 142 = .ok (.goto 54, 3) := by decide +kernel
theorem dX12_carry_145 : decode cX12_carry 145 = .ok (.aload_n 0, 1) := by decide +kernel
theorem dX12_carry_146 : decode cX12_carry 146 = .ok (.iload_n 1, 1) := by decide +kernel
theorem dX12_carry_147 : decode cX12_carry 147 = .ok (.iload 6, 2) := by decide +kernel
theorem dX12_carry_149 : decode cX12_carry 149 = .ok (.invokevirtual 256, 3) := by decide +kernel
theorem dX12_carry_152 : decode cX12_carry 152 = .ok (.istore 7, 2) := by decide +kernel
theorem dX12_carry_154 : decode cX12_carry 154 = .ok (.iload 7, 2) := by decide +kernel
theorem dX12_carry_156 : decode cX12_carry 156 = .ok (.iload 5, 2) := by decide +kernel
theorem dX12_carry_158 : decode cX12_carry 158 = .ok (.invokestatic 174, 3) := by decide +kernel
theorem dX12_carry_161 : decode cX12_carry 161 = .ok (.ifCond .ne 9, 3) := by decide +kernel
theorem dX12_carry_164 : decode cX12_carry 164 = .ok (.aload_n 0, 1) := by decide +kernel
theorem dX12_carry_165 : decode cX12_carry 165 = .ok (.iconst 3, 1) := by decide +kernel
theorem dX12_carry_166 : decode cX12_carry 166 = .ok (.invokevirtual 166, 3) := by decide +kernel
theorem dX12_carry_169 : decode cX12_carry 169 = .ok (.ireturn, 1) := by decide +kernel
theorem dX12_carry_170 : decode cX12_carry 170 = .ok (.aload_n 0, 1) := by decide +kernel
theorem dX12_carry_171 : decode cX12_carry 171 = .ok (.getfield 87, 3) := by decide +kernel
theorem dX12_carry_174 : decode cX12_carry 174 = .ok (.iload 4, 2) := by decide +kernel
theorem dX12_carry_176 : decode cX12_carry 176 = .ok (.iload 7, 2) := by decide +kernel
theorem dX12_carry_178 : decode cX12_carry 178 = .ok (.iload 5, 2) := by decide +kernel
theorem dX12_carry_180 : decode cX12_carry 180 = .ok (.aload_n 0, 1) := by decide +kernel
theorem dX12_carry_181 : decode cX12_carry 181 = .ok (.getfield 84, 3) := by decide +kernel
theorem dX12_carry_184 : decode cX12_carry 184 = .ok (.bipush 6, 2) := by decide +kernel
theorem dX12_carry_186 : decode cX12_carry 186 = .ok (.iload_n 1, 1) := by decide +kernel
theorem dX12_carry_187 : decode cX12_carry 187 = .ok (.imul, 1) := by decide +kernel
theorem dX12_carry_188 : decode cX12_carry 188 = .ok (.iload 6, 2) := by decide +kernel
theorem dX12_carry_190 : decode cX12_carry 190 = .ok (.iadd, 1) := by decide +kernel
theorem dX12_carry_191 : decode cX12_carry 191 = .ok (.laload, 1) := by decide +kernel
theorem dX12_carry_192 : decode cX12_carry 192 = .ok (.invokestatic 182, 3) := by decide +kernel
theorem dX12_carry_195 : decode cX12_carry 195 = .ok (.lastore, 1) := by decide +kernel
theorem dX12_carry_196 : decode cX12_carry 196 = .ok (.iinc 4 1, 3) := by decide +kernel
theorem dX12_carry_199 : decode cX12_carry 199 = .ok (.goto (-131), 3) := by decide +kernel
theorem dX12_carry_202 : decode cX12_carry 202 = .ok (.aload_n 0, 1) := by decide +kernel
theorem dX12_carry_203 : decode cX12_carry 203 = .ok (.iload_n 2, 1) := by decide +kernel
theorem dX12_carry_204 : decode cX12_carry 204 = .ok (.invokevirtual 253, 3) := by decide +kernel
theorem dX12_carry_207 : decode cX12_carry 207 = .ok (.ireturn, 1) := by decide +kernel
def L_X12_carry_68 (d : Nat) (v0 : Option Nm) (v1 : Int32) (v2 : Int32) (v3 : Int32) (v4 : Int32) (h : MH) (u : Nat) (Q : Int32 → MH → Prop) : Prop := T u_X12_carry (d + 1) 68 [some (jR v0), some (jI v1), some (jI v2), some (jI v3), some (jI v4), none, none, none] [] h u (qI Q)
def F_X12_carry (d : Nat) (v0 : Option Nm) (v1 : Int32) (h : MH) (u : Nat) (Q : Int32 → MH → Prop) : Prop :=
  rc h v0 11 ∧ iI d u_X12_isValue [jR v0, jI v1] h u fun x1 h u =>
  if x1 = 0 then
    Q (-1) h
  else
    gR h v0 11 25 fun x2 =>
    aI .int h x2 v1 fun x3 =>
    rc h v0 11 ∧ iI d u_X12_newestOf [jR v0, jI x3] h u fun x4 h u =>
    rc h v0 11 ∧ iI d u_X12_isConstant [jR v0, jI v1] h u fun x5 h u =>
    if x5 = 0 then
      gI h v0 11 24 fun x6 =>
      if x6 = 200 then
        Q (-4) h
      else
        L_X12_carry_68 d v0 v1 x3 x4 0 h u Q
    else
      gR h v0 11 30 fun x7 =>
      aI .int h x7 v1 fun x8 =>
      rc h v0 11 ∧ iI d u_X12_placeOf [jR v0, jI x4, jI x8] h u fun x9 h u =>
      if 0 ≤ x9 then
        Q v1 h
      else
        Q (-3) h
set_option maxRecDepth 20000 in
theorem E_X12_carry {d : Nat} {v0 : Option Nm} {v1 : Int32} {h : MH} {u : Nat} {Q : Int32 → MH → Prop} (H : F_X12_carry d v0 v1 h u Q) : T u_X12_carry (d + 1) 0 [some (jR v0), some (jI v1), none, none, none, none, none, none] [] h u (qI Q) := by
  unfold F_X12_carry at H
  refine T_aload_n (pc := 0) dX12_carry_0 rfl rfl ?_
  refine T_iload_n (pc := 1) dX12_carry_1 rfl rfl ?_
  obtain ⟨H0, H⟩ := H
  refine T_iV (pc := 2) (ci := 11) (av := [jI v1]) (rest := []) (o := v0) dX12_carry_2 mf_X12_isValue c_5_155 c_5_157 pr_X12_isValue rfl rfl (Nat.le_of_ble_eq_true rfl) rfl H0 (iI_k (iI_mono (fun x1 h u H => ?_) H))
  refine T_if_ne (pc := 5) (tgt := 10) dX12_carry_5 (by decide) (fun hc => ?_) (fun hc => ?_)
  · rw [if_neg hc] at H
    refine T_aload_n (pc := 10) dX12_carry_10 rfl rfl ?_
    refine T_gR (pc := 11) fa_X12_66 dX12_carry_11 (gR_mono (fun x2 H => ?_) H)
    refine T_iload_n (pc := 14) dX12_carry_14 rfl rfl ?_
    refine T_aI (pc := 15) dX12_carry_15 (aI_mono (fun x3 H => ?_) H)
    refine T_istore_n (pc := 16) (ls2 := [some (jR v0), some (jI v1), some (jI x3), none, none, none, none, none]) dX12_carry_16 rfl (Nat.le_of_ble_eq_true rfl) rfl ?_
    refine T_aload_n (pc := 17) dX12_carry_17 rfl rfl ?_
    refine T_iload_n (pc := 18) dX12_carry_18 rfl rfl ?_
    obtain ⟨H0, H⟩ := H
    refine T_iV (pc := 19) (ci := 11) (av := [jI x3]) (rest := []) (o := v0) dX12_carry_19 mf_X12_newestOf c_5_210 c_5_212 pr_X12_newestOf rfl rfl (Nat.le_of_ble_eq_true rfl) rfl H0 (iI_k (iI_mono (fun x4 h u H => ?_) H))
    refine T_istore_n (pc := 22) (ls2 := [some (jR v0), some (jI v1), some (jI x3), some (jI x4), none, none, none, none]) dX12_carry_22 rfl (Nat.le_of_ble_eq_true rfl) rfl ?_
    refine T_aload_n (pc := 23) dX12_carry_23 rfl rfl ?_
    refine T_iload_n (pc := 24) dX12_carry_24 rfl rfl ?_
    obtain ⟨H0, H⟩ := H
    refine T_iV (pc := 25) (ci := 11) (av := [jI v1]) (rest := []) (o := v0) dX12_carry_25 mf_X12_isConstant c_6_34 c_6_36 pr_X12_isConstant rfl rfl (Nat.le_of_ble_eq_true rfl) rfl H0 (iI_k (iI_mono (fun x5 h u H => ?_) H))
    refine T_if_eq (pc := 28) (tgt := 52) dX12_carry_28 (by decide) (fun hc => ?_) (fun hc => ?_)
    · rw [if_pos hc] at H
      refine T_aload_n (pc := 52) dX12_carry_52 rfl rfl ?_
      refine T_gI (pc := 53) fa_X12_215 dX12_carry_53 (gI_mono (fun x6 H => ?_) H)
      refine T_sipush (pc := 56) (v := 200) dX12_carry_56 (by decide) ?_
      refine T_icmp_ne (pc := 59) (tgt := 65) dX12_carry_59 (by decide) (fun hc => ?_) (fun hc => ?_)
      · rw [if_neg hc] at H
        refine T_iconst (pc := 65) (v := 0) dX12_carry_65 (by decide) ?_
        refine T_istore (pc := 66) (ls2 := [some (jR v0), some (jI v1), some (jI x3), some (jI x4), some (jI 0), none, none, none]) dX12_carry_66 (Nat.le_of_ble_eq_true rfl) rfl ?_
        exact T.forget H ⟨rfl, rfl, rfl, rfl, rfl, trivial⟩
      · rw [if_pos hc] at H
        refine T_bipush (pc := 62) (v := (-4)) dX12_carry_62 (by decide) ?_
        exact T_ireturn (pc := 64) rfl rfl dX12_carry_64 H
    · rw [if_neg hc] at H
      refine T_aload_n (pc := 31) dX12_carry_31 rfl rfl ?_
      refine T_iload_n (pc := 32) dX12_carry_32 rfl rfl ?_
      refine T_aload_n (pc := 33) dX12_carry_33 rfl rfl ?_
      refine T_gR (pc := 34) fa_X12_81 dX12_carry_34 (gR_mono (fun x7 H => ?_) H)
      refine T_iload_n (pc := 37) dX12_carry_37 rfl rfl ?_
      refine T_aI (pc := 38) dX12_carry_38 (aI_mono (fun x8 H => ?_) H)
      obtain ⟨H0, H⟩ := H
      refine T_iV (pc := 39) (ci := 11) (av := [jI x4, jI x8]) (rest := []) (o := v0) dX12_carry_39 mf_X12_placeOf c_5_202 c_5_204 pr_X12_placeOf rfl rfl (Nat.le_of_ble_eq_true rfl) rfl H0 (iI_k (iI_mono (fun x9 h u H => ?_) H))
      refine T_if_ge (pc := 42) (tgt := 50) dX12_carry_42 (by decide) (fun hc => ?_) (fun hc => ?_)
      · rw [if_pos hc] at H
        refine T_iload_n (pc := 50) dX12_carry_50 rfl rfl ?_
        exact T_ireturn (pc := 51) rfl rfl dX12_carry_51 H
      · rw [if_neg hc] at H
        refine T_bipush (pc := 45) (v := (-3)) dX12_carry_45 (by decide) ?_
        refine T_goto (pc := 47) (tgt := 51) dX12_carry_47 (by decide) ?_
        exact T_ireturn (pc := 51) rfl rfl dX12_carry_51 H
  · rw [if_pos hc] at H
    refine T_iconst (pc := 8) (v := (-1)) dX12_carry_8 (by decide) ?_
    exact T_ireturn (pc := 9) rfl rfl dX12_carry_9 H
def F_X12_carry_141 (d : Nat) (v0 : Option Nm) (v1 : Int32) (v2 : Int32) (v3 : Int32) (v4 : Int32) (s0 : Option Nm) (s1 : Int32) (s2 : Int64) (h : MH) (u : Nat) (Q : Int32 → MH → Prop) : Prop :=
  sV .long h s0 s1 (jL s2) fun h =>
  L_X12_carry_68 d v0 v1 v2 v3 (v4 + 1) h u Q
set_option maxRecDepth 20000 in
theorem E_X12_carry_141 {d : Nat} {v0 : Option Nm} {v1 : Int32} {v2 : Int32} {v3 : Int32} {v4 : Int32} {s0 : Option Nm} {s1 : Int32} {s2 : Int64} {h : MH} {u : Nat} {Q : Int32 → MH → Prop} (H : F_X12_carry_141 d v0 v1 v2 v3 v4 s0 s1 s2 h u Q) : T u_X12_carry (d + 1) 141 [some (jR v0), some (jI v1), some (jI v2), some (jI v3), some (jI v4), none, none, none] [jL s2, jI s1, jR s0] h u (qI Q) := by
  unfold F_X12_carry_141 at H
  refine T_sL (pc := 141) dX12_carry_141 (sV_mono (fun h H => ?_) H)
  refine T_goto (pc := 142) (tgt := 196) dX12_carry_142 (by decide) ?_
  refine T_iinc (pc := 196) (v := v4 + 1) (ls2 := [some (jR v0), some (jI v1), some (jI v2), some (jI v3), some (jI (v4 + 1)), none, none, none]) dX12_carry_196 rfl rfl (Nat.le_of_ble_eq_true rfl) rfl ?_
  refine T_goto (pc := 199) (tgt := 68) dX12_carry_199 (by decide) ?_
  exact T.forget H ⟨rfl, rfl, rfl, rfl, rfl, trivial⟩
def F_X12_carry_68 (d : Nat) (v0 : Option Nm) (v1 : Int32) (v2 : Int32) (v3 : Int32) (v4 : Int32) (h : MH) (u : Nat) (Q : Int32 → MH → Prop) : Prop :=
  gR h v0 11 15 fun x1 =>
  aI .int h x1 v3 fun x2 =>
  if x2 ≤ v4 then
    rc h v0 11 ∧ iI d u_X12_finish [jR v0, jI v2] h u fun x3 h u =>
    Q x3 h
  else
    gR h v0 11 17 fun x4 =>
    aI .int h x4 ((8 * v3) + v4) fun x5 =>
    rc h v0 11 ∧ iI d u_X12_editionOf [jR v0, jI v1] h u fun x6 h u =>
    gR h v0 11 16 fun x7 =>
    aI .int h x7 ((8 * v3) + v4) fun x8 =>
    rc h v0 11 ∧ iI d u_X12_placeOf [jR v0, jI x6, jI x8] h u fun x9 h u =>
    if 0 ≤ x9 then
      rc h v0 11 ∧ iI d u_X12_laneOf [jR v0, jI v1, jI x9] h u fun x10 h u =>
      iI d u_X12_isWidened [jI x10, jI x5] h u fun x11 h u =>
      if x11 = 0 then
        rc h v0 11 ∧ iI d u_X12_fails [jR v0, jI 3] h u fun x16 h u =>
        Q x16 h
      else
        gR h v0 11 32 fun x12 =>
        gR h v0 11 31 fun x13 =>
        aL h x13 ((6 * v1) + x9) fun x14 =>
        iL d u_X12_widened [jI x10, jI x5, jL x14] h u fun x15 h u =>
        sV .long h x12 v4 (jL x15) fun h =>
        L_X12_carry_68 d v0 v1 v2 v3 (v4 + 1) h u Q
    else
      gR h v0 11 32 fun x17 =>
      if 8 ≤ x5 then
        F_X12_carry_141 d v0 v1 v2 v3 v4 x17 v4 (-1) h u Q
      else
        F_X12_carry_141 d v0 v1 v2 v3 v4 x17 v4 0 h u Q
set_option maxRecDepth 20000 in
theorem E_X12_carry_68 {d : Nat} {v0 : Option Nm} {v1 : Int32} {v2 : Int32} {v3 : Int32} {v4 : Int32} {h : MH} {u : Nat} {Q : Int32 → MH → Prop} (H : F_X12_carry_68 d v0 v1 v2 v3 v4 h u Q) : T u_X12_carry (d + 1) 68 [some (jR v0), some (jI v1), some (jI v2), some (jI v3), some (jI v4), none, none, none] [] h u (qI Q) := by
  unfold F_X12_carry_68 at H
  refine T_iload (pc := 68) dX12_carry_68 rfl ?_
  refine T_aload_n (pc := 70) dX12_carry_70 rfl rfl ?_
  refine T_gR (pc := 71) fa_X12_42 dX12_carry_71 (gR_mono (fun x1 H => ?_) H)
  refine T_iload_n (pc := 74) dX12_carry_74 rfl rfl ?_
  refine T_aI (pc := 75) dX12_carry_75 (aI_mono (fun x2 H => ?_) H)
  refine T_icmp_ge (pc := 76) (tgt := 202) dX12_carry_76 (by decide) (fun hc => ?_) (fun hc => ?_)
  · rw [if_pos hc] at H
    refine T_aload_n (pc := 202) dX12_carry_202 rfl rfl ?_
    refine T_iload_n (pc := 203) dX12_carry_203 rfl rfl ?_
    obtain ⟨H0, H⟩ := H
    refine T_iV (pc := 204) (ci := 11) (av := [jI v2]) (rest := []) (o := v0) dX12_carry_204 mf_X12_finish c_6_10 c_6_12 pr_X12_finish rfl rfl (Nat.le_of_ble_eq_true rfl) rfl H0 (iI_k (iI_mono (fun x3 h u H => ?_) H))
    exact T_ireturn (pc := 207) rfl rfl dX12_carry_207 H
  · rw [if_neg hc] at H
    refine T_aload_n (pc := 79) dX12_carry_79 rfl rfl ?_
    refine T_gR (pc := 80) fa_X12_48 dX12_carry_80 (gR_mono (fun x4 H => ?_) H)
    refine T_bipush (pc := 83) (v := 8) dX12_carry_83 (by decide) ?_
    refine T_iload_n (pc := 85) dX12_carry_85 rfl rfl ?_
    refine T_imul (pc := 86) dX12_carry_86 ?_
    refine T_iload (pc := 87) dX12_carry_87 rfl ?_
    refine T_iadd (pc := 89) dX12_carry_89 ?_
    refine T_aI (pc := 90) dX12_carry_90 (aI_mono (fun x5 H => ?_) H)
    refine T_istore (pc := 91) (ls2 := [some (jR v0), some (jI v1), some (jI v2), some (jI v3), some (jI v4), some (jI x5), none, none]) dX12_carry_91 (Nat.le_of_ble_eq_true rfl) rfl ?_
    refine T_aload_n (pc := 93) dX12_carry_93 rfl rfl ?_
    refine T_aload_n (pc := 94) dX12_carry_94 rfl rfl ?_
    refine T_iload_n (pc := 95) dX12_carry_95 rfl rfl ?_
    obtain ⟨H0, H⟩ := H
    refine T_iV (pc := 96) (ci := 11) (av := [jI v1]) (rest := [jR v0]) (o := v0) dX12_carry_96 mf_X12_editionOf c_6_42 c_6_44 pr_X12_editionOf rfl rfl (Nat.le_of_ble_eq_true rfl) rfl H0 (iI_k (iI_mono (fun x6 h u H => ?_) H))
    refine T_aload_n (pc := 99) dX12_carry_99 rfl rfl ?_
    refine T_gR (pc := 100) fa_X12_45 dX12_carry_100 (gR_mono (fun x7 H => ?_) H)
    refine T_bipush (pc := 103) (v := 8) dX12_carry_103 (by decide) ?_
    refine T_iload_n (pc := 105) dX12_carry_105 rfl rfl ?_
    refine T_imul (pc := 106) dX12_carry_106 ?_
    refine T_iload (pc := 107) dX12_carry_107 rfl ?_
    refine T_iadd (pc := 109) dX12_carry_109 ?_
    refine T_aI (pc := 110) dX12_carry_110 (aI_mono (fun x8 H => ?_) H)
    obtain ⟨H0, H⟩ := H
    refine T_iV (pc := 111) (ci := 11) (av := [jI x6, jI x8]) (rest := []) (o := v0) dX12_carry_111 mf_X12_placeOf c_5_202 c_5_204 pr_X12_placeOf rfl rfl (Nat.le_of_ble_eq_true rfl) rfl H0 (iI_k (iI_mono (fun x9 h u H => ?_) H))
    refine T_istore (pc := 114) (ls2 := [some (jR v0), some (jI v1), some (jI v2), some (jI v3), some (jI v4), some (jI x5), some (jI x9), none]) dX12_carry_114 (Nat.le_of_ble_eq_true rfl) rfl ?_
    refine T_iload (pc := 116) dX12_carry_116 rfl ?_
    refine T_if_ge (pc := 118) (tgt := 145) dX12_carry_118 (by decide) (fun hc => ?_) (fun hc => ?_)
    · rw [if_pos hc] at H
      refine T_aload_n (pc := 145) dX12_carry_145 rfl rfl ?_
      refine T_iload_n (pc := 146) dX12_carry_146 rfl rfl ?_
      refine T_iload (pc := 147) dX12_carry_147 rfl ?_
      obtain ⟨H0, H⟩ := H
      refine T_iV (pc := 149) (ci := 11) (av := [jI v1, jI x9]) (rest := []) (o := v0) dX12_carry_149 mf_X12_laneOf c_6_50 c_6_52 pr_X12_laneOf rfl rfl (Nat.le_of_ble_eq_true rfl) rfl H0 (iI_k (iI_mono (fun x10 h u H => ?_) H))
      refine T_istore (pc := 152) (ls2 := [some (jR v0), some (jI v1), some (jI v2), some (jI v3), some (jI v4), some (jI x5), some (jI x9), some (jI x10)]) dX12_carry_152 (Nat.le_of_ble_eq_true rfl) rfl ?_
      refine T_iload (pc := 154) dX12_carry_154 rfl ?_
      refine T_iload (pc := 156) dX12_carry_156 rfl ?_
      refine T_invS (pc := 158) (av := [jI x10, jI x5]) (rest := []) dX12_carry_158 mf_X12_isWidened c_5_106 c_5_107 rfl (Nat.le_of_ble_eq_true rfl) rfl (iI_k (iI_mono (fun x11 h u H => ?_) H))
      refine T_if_ne (pc := 161) (tgt := 170) dX12_carry_161 (by decide) (fun hc => ?_) (fun hc => ?_)
      · rw [if_neg hc] at H
        refine T_aload_n (pc := 170) dX12_carry_170 rfl rfl ?_
        refine T_gR (pc := 171) fa_X12_87 dX12_carry_171 (gR_mono (fun x12 H => ?_) H)
        refine T_iload (pc := 174) dX12_carry_174 rfl ?_
        refine T_iload (pc := 176) dX12_carry_176 rfl ?_
        refine T_iload (pc := 178) dX12_carry_178 rfl ?_
        refine T_aload_n (pc := 180) dX12_carry_180 rfl rfl ?_
        refine T_gR (pc := 181) fa_X12_84 dX12_carry_181 (gR_mono (fun x13 H => ?_) H)
        refine T_bipush (pc := 184) (v := 6) dX12_carry_184 (by decide) ?_
        refine T_iload_n (pc := 186) dX12_carry_186 rfl rfl ?_
        refine T_imul (pc := 187) dX12_carry_187 ?_
        refine T_iload (pc := 188) dX12_carry_188 rfl ?_
        refine T_iadd (pc := 190) dX12_carry_190 ?_
        refine T_aL (pc := 191) dX12_carry_191 (aL_mono (fun x14 H => ?_) H)
        refine T_invS (pc := 192) (av := [jI x10, jI x5, jL x14]) (rest := [jI v4, jR x12]) dX12_carry_192 mf_X12_widened c_5_133 c_5_134 rfl (Nat.le_of_ble_eq_true rfl) rfl (iL_k (iL_mono (fun x15 h u H => ?_) H))
        refine T_sL (pc := 195) dX12_carry_195 (sV_mono (fun h H => ?_) H)
        refine T_iinc (pc := 196) (v := v4 + 1) (ls2 := [some (jR v0), some (jI v1), some (jI v2), some (jI v3), some (jI (v4 + 1)), some (jI x5), some (jI x9), some (jI x10)]) dX12_carry_196 rfl rfl (Nat.le_of_ble_eq_true rfl) rfl ?_
        refine T_goto (pc := 199) (tgt := 68) dX12_carry_199 (by decide) ?_
        exact T.forget H ⟨rfl, rfl, rfl, rfl, rfl, trivial⟩
      · rw [if_pos hc] at H
        refine T_aload_n (pc := 164) dX12_carry_164 rfl rfl ?_
        refine T_iconst (pc := 165) (v := 3) dX12_carry_165 (by decide) ?_
        obtain ⟨H0, H⟩ := H
        refine T_iV (pc := 166) (ci := 11) (av := [jI 3]) (rest := []) (o := v0) dX12_carry_166 mf_X12_fails c_5_89 c_5_91 pr_X12_fails rfl rfl (Nat.le_of_ble_eq_true rfl) rfl H0 (iI_k (iI_mono (fun x16 h u H => ?_) H))
        exact T_ireturn (pc := 169) rfl rfl dX12_carry_169 H
    · rw [if_neg hc] at H
      refine T_aload_n (pc := 121) dX12_carry_121 rfl rfl ?_
      refine T_gR (pc := 122) fa_X12_87 dX12_carry_122 (gR_mono (fun x17 H => ?_) H)
      refine T_iload (pc := 125) dX12_carry_125 rfl ?_
      refine T_iload (pc := 127) dX12_carry_127 rfl ?_
      refine T_bipush (pc := 129) (v := 8) dX12_carry_129 (by decide) ?_
      refine T_icmp_ge (pc := 131) (tgt := 138) dX12_carry_131 (by decide) (fun hc => ?_) (fun hc => ?_)
      · rw [if_pos hc] at H
        refine T_ldc2 (pc := 138) (v := (-1)) dX12_carry_138 c_5_97 ?_
        exact T.forget (E_X12_carry_141 H) ⟨rfl, rfl, rfl, rfl, rfl, trivial⟩
      · rw [if_neg hc] at H
        refine T_lconst (pc := 134) (v := 0) dX12_carry_134 (by decide) ?_
        refine T_goto (pc := 135) (tgt := 141) dX12_carry_135 (by decide) ?_
        exact T.forget (E_X12_carry_141 H) ⟨rfl, rfl, rfl, rfl, rfl, trivial⟩
theorem I_X12_carry {d : Nat} {v0 : Option Nm} {v1 : Int32} {h : MH} {u : Nat} {K : Int32 → MH → Nat → Prop} (u1 : Nat) (hu : u1 ≤ u) (H : F_X12_carry d v0 v1 h u1 (fun x h2 => K x h2 (u - u1))) : iI (d + 1) u_X12_carry [jR v0, jI v1] h u K := inv.of u1 hu (Ct.of (by decide +kernel) rfl (Nat.le_of_ble_eq_true rfl) rfl (E_X12_carry H))
theorem dX12_trace_0 : decode cX12_trace 0 = .ok (.aload_n 0, 1) := by decide +kernel
theorem dX12_trace_1 : decode cX12_trace 1 = .ok (.getfield 128, 3) := by decide +kernel
theorem dX12_trace_4 : decode cX12_trace 4 = .ok (.ireturn, 1) := by decide +kernel
def F_X12_trace (d : Nat) (v0 : Option Nm) (h : MH) (u : Nat) (Q : Int32 → MH → Prop) : Prop :=
  gI h v0 11 2 fun x1 =>
  Q x1 h
set_option maxRecDepth 20000 in
theorem E_X12_trace {d : Nat} {v0 : Option Nm} {h : MH} {u : Nat} {Q : Int32 → MH → Prop} (H : F_X12_trace d v0 h u Q) : T u_X12_trace d 0 [some (jR v0)] [] h u (qI Q) := by
  unfold F_X12_trace at H
  refine T_aload_n (pc := 0) dX12_trace_0 rfl rfl ?_
  refine T_gI (pc := 1) fa_X12_128 dX12_trace_1 (gI_mono (fun x1 H => ?_) H)
  exact T_ireturn (pc := 4) rfl rfl dX12_trace_4 H
theorem I_X12_trace {d : Nat} {v0 : Option Nm} {h : MH} {u : Nat} {K : Int32 → MH → Nat → Prop} (u1 : Nat) (hu : u1 ≤ u) (H : F_X12_trace d v0 h u1 (fun x h2 => K x h2 (u - u1))) : iI d u_X12_trace [jR v0] h u K := inv.of u1 hu (Ct.of (by decide +kernel) rfl (Nat.le_of_ble_eq_true rfl) rfl (E_X12_trace H))
theorem dX12_fault_0 : decode cX12_fault 0 = .ok (.aload_n 0, 1) := by decide +kernel
theorem dX12_fault_1 : decode cX12_fault 1 = .ok (.getfield 117, 3) := by decide +kernel
theorem dX12_fault_4 : decode cX12_fault 4 = .ok (.ireturn, 1) := by decide +kernel
def F_X12_fault (d : Nat) (v0 : Option Nm) (h : MH) (u : Nat) (Q : Int32 → MH → Prop) : Prop :=
  gI h v0 11 0 fun x1 =>
  Q x1 h
set_option maxRecDepth 20000 in
theorem E_X12_fault {d : Nat} {v0 : Option Nm} {h : MH} {u : Nat} {Q : Int32 → MH → Prop} (H : F_X12_fault d v0 h u Q) : T u_X12_fault d 0 [some (jR v0)] [] h u (qI Q) := by
  unfold F_X12_fault at H
  refine T_aload_n (pc := 0) dX12_fault_0 rfl rfl ?_
  refine T_gI (pc := 1) fa_X12_117 dX12_fault_1 (gI_mono (fun x1 H => ?_) H)
  exact T_ireturn (pc := 4) rfl rfl dX12_fault_4 H
theorem I_X12_fault {d : Nat} {v0 : Option Nm} {h : MH} {u : Nat} {K : Int32 → MH → Nat → Prop} (u1 : Nat) (hu : u1 ≤ u) (H : F_X12_fault d v0 h u1 (fun x h2 => K x h2 (u - u1))) : iI d u_X12_fault [jR v0] h u K := inv.of u1 hu (Ct.of (by decide +kernel) rfl (Nat.le_of_ble_eq_true rfl) rfl (E_X12_fault H))
theorem dX12_told_0 : decode cX12_told 0 = .ok (.iload_n 1, 1) := by decide +kernel
theorem dX12_told_1 : decode cX12_told 1 = .ok (.tableswitch 101 0 5 #[39, 44, 49, 54, 59, 96], 39) := by decide +kernel
theorem dX12_told_40 : decode cX12_told 40 = .ok (.aload_n 0, 1) := by decide +kernel
theorem dX12_told_41 : decode cX12_told 41 = .ok (.getfield 153, 3) := by decide +kernel
theorem dX12_told_44 : decode cX12_told 44 = .ok (.ireturn, 1) := by decide +kernel
theorem dX12_told_45 : decode cX12_told 45 = .ok (.aload_n 0, 1) := by decide +kernel
theorem dX12_told_46 : decode cX12_told 46 = .ok (.getfield 199, 3) := by decide +kernel
theorem dX12_told_49 : decode cX12_told 49 = .ok (.ireturn, 1) := by decide +kernel
theorem dX12_told_50 : decode cX12_told 50 = .ok (.aload_n 0, 1) := by decide +kernel
theorem dX12_told_51 : decode cX12_told 51 = .ok (.getfield 228, 3) := by decide +kernel
theorem dX12_told_54 : decode cX12_told 54 = .ok (.ireturn, 1) := by decide +kernel
theorem dX12_told_55 : decode cX12_told 55 = .ok (.aload_n 0, 1) := by decide +kernel
theorem dX12_told_56 : decode cX12_told 56 = .ok (.getfield 215, 3) := by decide +kernel
theorem dX12_told_59 : decode cX12_told 59 = .ok (.ireturn, 1) := by decide +kernel
theorem dX12_told_60 : decode cX12_told 60 = .ok (.iconst 0, 1) := by decide +kernel
theorem dX12_told_61 : decode cX12_told 61 = .ok (.istore_n 2, 1) := by decide +kernel
theorem dX12_told_62 : decode cX12_told 62 = .ok (.iconst 0, 1) := by decide +kernel
theorem dX12_told_63 : decode cX12_told 63 = .ok (.istore_n 3, 1) := by decide +kernel
theorem dX12_told_64 : decode cX12_told 64 = .ok (.iload_n 3, 1) := by decide +kernel
theorem dX12_told_65 : decode cX12_told 65 = .ok (.aload_n 0, 1) := by decide +kernel
theorem dX12_told_66 : decode cX12_told 66 = .ok (.getfield 199, 3) := by decide +kernel
theorem dX12_told_69 : decode cX12_told 69 = .ok (.if_icmp .ge 26, 3) := by decide +kernel
theorem dX12_told_72 : decode cX12_told 72 = .ok (.iload_n 2, 1) := by decide +kernel
theorem dX12_told_73 : decode cX12_told 73 = .ok (.aload_n 0, 1) := by decide +kernel
theorem dX12_told_74 : decode cX12_told 74 = .ok (.getfield 33, 3) := by decide +kernel
theorem dX12_told_77 : decode cX12_told 77 = .ok (.iload_n 3, 1) := by decide +kernel
theorem dX12_told_78 : decode cX12_told 78 = .ok (.baload, 1) := by decide +kernel
theorem dX12_told_79 : decode cX12_told 79 = .ok (.ifCond .eq 7, 3) := by decide +kernel
theorem dX12_told_82 : decode cX12_told 82 = .ok (.iconst 1, 1) := by decide +kernel
theorem dX12_told_83 : decode cX12_told 83 = .ok (.goto 4, 3) := by decide +kernel
theorem dX12_told_86 : decode cX12_told 86 = .ok (.iconst 0, 1) := by decide +kernel
theorem dX12_told_87 : decode cX12_told 87 = .ok (.iadd, 1) := by decide +kernel
theorem dX12_told_88 : decode cX12_told 88 = .ok (.istore_n 2, 1) := by decide +kernel
theorem dX12_told_89 : decode cX12_told 89 = .ok (.iinc 3 1, 3) := by decide +kernel
theorem dX12_told_92 : decode cX12_told 92 = .ok (.goto (-28), 3) := by decide +kernel
theorem dX12_told_95 : decode cX12_told 95 = .ok (.iload_n 2, 1) := by decide +kernel
theorem dX12_told_96 : decode cX12_told 96 = .ok (.ireturn, 1) := by decide +kernel
theorem dX12_told_97 : decode cX12_told 97 = .ok (.aload_n 0, 1) := by decide +kernel
theorem dX12_told_98 : decode cX12_told 98 = .ok (.getfield 121, 3) := by decide +kernel
theorem dX12_told_101 : decode cX12_told 101 = .ok (.ireturn, 1) := by decide +kernel
theorem dX12_told_102 : decode cX12_told 102 = .ok (.bipush (-2), 2) := by decide +kernel
theorem dX12_told_104 : decode cX12_told 104 = .ok (.ireturn, 1) := by decide +kernel
def L_X12_told_64 (d : Nat) (v0 : Option Nm) (v2 : Int32) (v3 : Int32) (h : MH) (u : Nat) (Q : Int32 → MH → Prop) : Prop := T u_X12_told d 64 [some (jR v0), none, some (jI v2), some (jI v3)] [] h u (qI Q)
def F_X12_told (d : Nat) (v0 : Option Nm) (v1 : Int32) (h : MH) (u : Nat) (Q : Int32 → MH → Prop) : Prop :=
  if v1 = 0 then
    gI h v0 11 3 fun x1 =>
    Q x1 h
  else if v1 = 1 then
    gI h v0 11 9 fun x2 =>
    Q x2 h
  else if v1 = 2 then
    gI h v0 11 19 fun x3 =>
    Q x3 h
  else if v1 = 3 then
    gI h v0 11 24 fun x4 =>
    Q x4 h
  else if v1 = 4 then
    L_X12_told_64 d v0 0 0 h u Q
  else if v1 = 5 then
    gI h v0 11 1 fun x5 =>
    Q x5 h
  else 
    Q (-2) h
set_option maxRecDepth 20000 in
theorem E_X12_told {d : Nat} {v0 : Option Nm} {v1 : Int32} {h : MH} {u : Nat} {Q : Int32 → MH → Prop} (H : F_X12_told d v0 v1 h u Q) : T u_X12_told d 0 [some (jR v0), some (jI v1), none, none] [] h u (qI Q) := by
  unfold F_X12_told at H
  refine T_iload_n (pc := 0) dX12_told_0 rfl rfl ?_
  by_cases h0 : v1 = 0
  · rw [if_pos h0] at H
    refine T_tableIn (pc := 1) (off := 39) (tgt := 40) dX12_told_1 (by rw [h0]; decide) (by rw [h0]; decide) (by rw [h0]; rfl) (by decide) ?_
    refine T_aload_n (pc := 40) dX12_told_40 rfl rfl ?_
    refine T_gI (pc := 41) fa_X12_153 dX12_told_41 (gI_mono (fun x1 H => ?_) H)
    exact T_ireturn (pc := 44) rfl rfl dX12_told_44 H
  rw [if_neg h0] at H
  by_cases h1 : v1 = 1
  · rw [if_pos h1] at H
    refine T_tableIn (pc := 1) (off := 44) (tgt := 45) dX12_told_1 (by rw [h1]; decide) (by rw [h1]; decide) (by rw [h1]; rfl) (by decide) ?_
    refine T_aload_n (pc := 45) dX12_told_45 rfl rfl ?_
    refine T_gI (pc := 46) fa_X12_199 dX12_told_46 (gI_mono (fun x2 H => ?_) H)
    exact T_ireturn (pc := 49) rfl rfl dX12_told_49 H
  rw [if_neg h1] at H
  by_cases h2 : v1 = 2
  · rw [if_pos h2] at H
    refine T_tableIn (pc := 1) (off := 49) (tgt := 50) dX12_told_1 (by rw [h2]; decide) (by rw [h2]; decide) (by rw [h2]; rfl) (by decide) ?_
    refine T_aload_n (pc := 50) dX12_told_50 rfl rfl ?_
    refine T_gI (pc := 51) fa_X12_228 dX12_told_51 (gI_mono (fun x3 H => ?_) H)
    exact T_ireturn (pc := 54) rfl rfl dX12_told_54 H
  rw [if_neg h2] at H
  by_cases h3 : v1 = 3
  · rw [if_pos h3] at H
    refine T_tableIn (pc := 1) (off := 54) (tgt := 55) dX12_told_1 (by rw [h3]; decide) (by rw [h3]; decide) (by rw [h3]; rfl) (by decide) ?_
    refine T_aload_n (pc := 55) dX12_told_55 rfl rfl ?_
    refine T_gI (pc := 56) fa_X12_215 dX12_told_56 (gI_mono (fun x4 H => ?_) H)
    exact T_ireturn (pc := 59) rfl rfl dX12_told_59 H
  rw [if_neg h3] at H
  by_cases h4 : v1 = 4
  · rw [if_pos h4] at H
    refine T_tableIn (pc := 1) (off := 59) (tgt := 60) dX12_told_1 (by rw [h4]; decide) (by rw [h4]; decide) (by rw [h4]; rfl) (by decide) ?_
    refine T_iconst (pc := 60) (v := 0) dX12_told_60 (by decide) ?_
    refine T_istore_n (pc := 61) (ls2 := [some (jR v0), some (jI v1), some (jI 0), none]) dX12_told_61 rfl (Nat.le_of_ble_eq_true rfl) rfl ?_
    refine T_iconst (pc := 62) (v := 0) dX12_told_62 (by decide) ?_
    refine T_istore_n (pc := 63) (ls2 := [some (jR v0), some (jI v1), some (jI 0), some (jI 0)]) dX12_told_63 rfl (Nat.le_of_ble_eq_true rfl) rfl ?_
    exact T.forget H ⟨rfl, rfl, rfl, trivial⟩
  rw [if_neg h4] at H
  by_cases h5 : v1 = 5
  · rw [if_pos h5] at H
    refine T_tableIn (pc := 1) (off := 96) (tgt := 97) dX12_told_1 (by rw [h5]; decide) (by rw [h5]; decide) (by rw [h5]; rfl) (by decide) ?_
    refine T_aload_n (pc := 97) dX12_told_97 rfl rfl ?_
    refine T_gI (pc := 98) fa_X12_121 dX12_told_98 (gI_mono (fun x5 H => ?_) H)
    exact T_ireturn (pc := 101) rfl rfl dX12_told_101 H
  rw [if_neg h5] at H
  have e0 : (v1 : Int32).toInt ≠ 0 := fun q => h0 (Int32.toInt_inj.mp (q.trans (by decide)))
  have e1 : (v1 : Int32).toInt ≠ 1 := fun q => h1 (Int32.toInt_inj.mp (q.trans (by decide)))
  have e2 : (v1 : Int32).toInt ≠ 2 := fun q => h2 (Int32.toInt_inj.mp (q.trans (by decide)))
  have e3 : (v1 : Int32).toInt ≠ 3 := fun q => h3 (Int32.toInt_inj.mp (q.trans (by decide)))
  have e4 : (v1 : Int32).toInt ≠ 4 := fun q => h4 (Int32.toInt_inj.mp (q.trans (by decide)))
  have e5 : (v1 : Int32).toInt ≠ 5 := fun q => h5 (Int32.toInt_inj.mp (q.trans (by decide)))
  refine T_tableOut (pc := 1) (tgt := 102) dX12_told_1 (by omega) (by decide) ?_
  refine T_bipush (pc := 102) (v := (-2)) dX12_told_102 (by decide) ?_
  exact T_ireturn (pc := 104) rfl rfl dX12_told_104 H
def F_X12_told_64 (d : Nat) (v0 : Option Nm) (v2 : Int32) (v3 : Int32) (h : MH) (u : Nat) (Q : Int32 → MH → Prop) : Prop :=
  gI h v0 11 9 fun x1 =>
  if x1 ≤ v3 then
    Q v2 h
  else
    gR h v0 11 12 fun x2 =>
    aI .boolean h x2 v3 fun x3 =>
    if x3 = 0 then
      L_X12_told_64 d v0 (v2 + 0) (v3 + 1) h u Q
    else
      L_X12_told_64 d v0 (v2 + 1) (v3 + 1) h u Q
set_option maxRecDepth 20000 in
theorem E_X12_told_64 {d : Nat} {v0 : Option Nm} {v2 : Int32} {v3 : Int32} {h : MH} {u : Nat} {Q : Int32 → MH → Prop} (H : F_X12_told_64 d v0 v2 v3 h u Q) : T u_X12_told d 64 [some (jR v0), none, some (jI v2), some (jI v3)] [] h u (qI Q) := by
  unfold F_X12_told_64 at H
  refine T_iload_n (pc := 64) dX12_told_64 rfl rfl ?_
  refine T_aload_n (pc := 65) dX12_told_65 rfl rfl ?_
  refine T_gI (pc := 66) fa_X12_199 dX12_told_66 (gI_mono (fun x1 H => ?_) H)
  refine T_icmp_ge (pc := 69) (tgt := 95) dX12_told_69 (by decide) (fun hc => ?_) (fun hc => ?_)
  · rw [if_pos hc] at H
    refine T_iload_n (pc := 95) dX12_told_95 rfl rfl ?_
    exact T_ireturn (pc := 96) rfl rfl dX12_told_96 H
  · rw [if_neg hc] at H
    refine T_iload_n (pc := 72) dX12_told_72 rfl rfl ?_
    refine T_aload_n (pc := 73) dX12_told_73 rfl rfl ?_
    refine T_gR (pc := 74) fa_X12_33 dX12_told_74 (gR_mono (fun x2 H => ?_) H)
    refine T_iload_n (pc := 77) dX12_told_77 rfl rfl ?_
    refine T_aZ (pc := 78) dX12_told_78 (aI_mono (fun x3 H => ?_) H)
    refine T_if_eq (pc := 79) (tgt := 86) dX12_told_79 (by decide) (fun hc => ?_) (fun hc => ?_)
    · rw [if_pos hc] at H
      refine T_iconst (pc := 86) (v := 0) dX12_told_86 (by decide) ?_
      refine T_iadd (pc := 87) dX12_told_87 ?_
      refine T_istore_n (pc := 88) (ls2 := [some (jR v0), none, some (jI (v2 + 0)), some (jI v3)]) dX12_told_88 rfl (Nat.le_of_ble_eq_true rfl) rfl ?_
      refine T_iinc (pc := 89) (v := v3 + 1) (ls2 := [some (jR v0), none, some (jI (v2 + 0)), some (jI (v3 + 1))]) dX12_told_89 rfl rfl (Nat.le_of_ble_eq_true rfl) rfl ?_
      refine T_goto (pc := 92) (tgt := 64) dX12_told_92 (by decide) ?_
      exact T.forget H ⟨rfl, rfl, rfl, trivial⟩
    · rw [if_neg hc] at H
      refine T_iconst (pc := 82) (v := 1) dX12_told_82 (by decide) ?_
      refine T_goto (pc := 83) (tgt := 87) dX12_told_83 (by decide) ?_
      refine T_iadd (pc := 87) dX12_told_87 ?_
      refine T_istore_n (pc := 88) (ls2 := [some (jR v0), none, some (jI (v2 + 1)), some (jI v3)]) dX12_told_88 rfl (Nat.le_of_ble_eq_true rfl) rfl ?_
      refine T_iinc (pc := 89) (v := v3 + 1) (ls2 := [some (jR v0), none, some (jI (v2 + 1)), some (jI (v3 + 1))]) dX12_told_89 rfl rfl (Nat.le_of_ble_eq_true rfl) rfl ?_
      refine T_goto (pc := 92) (tgt := 64) dX12_told_92 (by decide) ?_
      exact T.forget H ⟨rfl, rfl, rfl, trivial⟩
theorem I_X12_told {d : Nat} {v0 : Option Nm} {v1 : Int32} {h : MH} {u : Nat} {K : Int32 → MH → Nat → Prop} (u1 : Nat) (hu : u1 ≤ u) (H : F_X12_told d v0 v1 h u1 (fun x h2 => K x h2 (u - u1))) : iI d u_X12_told [jR v0, jI v1] h u K := inv.of u1 hu (Ct.of (by decide +kernel) rfl (Nat.le_of_ble_eq_true rfl) rfl (E_X12_told H))
