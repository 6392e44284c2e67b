theorem dX12_show_0 : decode cX12_show 0 = .ok (.aload_n 0, 1) := by decide +kernel
theorem dX12_show_1 : decode cX12_show 1 = .ok (.iload_n 1, 1) := by decide +kernel
theorem dX12_show_2 : decode cX12_show 2 = .ok (.invokevirtual 190, 3) := by decide +kernel
theorem dX12_show_5 : decode cX12_show 5 = .ok (.ifCond .ne 5, 3) := by decide +kernel
theorem dX12_show_8 : decode cX12_show 8 = .ok (.iconst (-1), 1) := by decide +kernel
theorem dX12_show_9 : decode cX12_show 9 = .ok (.ireturn, 1) := by decide +kernel
theorem dX12_show_10 : decode cX12_show 10 = .ok (.aload_n 0, 1) := by decide +kernel
theorem dX12_show_11 : decode cX12_show 11 = .ok (.iconst 0, 1) := by decide +kernel
theorem dX12_show_12 : decode cX12_show 12 = .ok (.putfield 323, 3) := by decide +kernel
theorem dX12_show_15 : decode cX12_show 15 = .ok (.aload_n 0, 1) := by decide +kernel
theorem dX12_show_16 : decode cX12_show 16 = .ok (.iconst 0, 1) := by decide +kernel
theorem dX12_show_17 : decode cX12_show 17 = .ok (.putfield 271, 3) := by decide +kernel
theorem dX12_show_20 : decode cX12_show 20 = .ok (.aload_n 0, 1) := by decide +kernel
theorem dX12_show_21 : decode cX12_show 21 = .ok (.iload_n 1, 1) := by decide +kernel
theorem dX12_show_22 : decode cX12_show 22 = .ok (.invokevirtual 340, 3) := by decide +kernel
theorem dX12_show_25 : decode cX12_show 25 = .ok (.aload_n 0, 1) := by decide +kernel
theorem dX12_show_26 : decode cX12_show 26 = .ok (.getfield 271, 3) := by decide +kernel
theorem dX12_show_29 : decode cX12_show 29 = .ok (.ifCond .le 26, 3) := by decide +kernel
theorem dX12_show_32 : decode cX12_show 32 = .ok (.aload_n 0, 1) := by decide +kernel
theorem dX12_show_33 : decode cX12_show 33 = .ok (.getfield 323, 3) := by decide +kernel
theorem dX12_show_36 : decode cX12_show 36 = .ok (.sipush 4000, 3) := by decide +kernel
theorem dX12_show_39 : decode cX12_show 39 = .ok (.if_icmp .gt 16, 3) := by decide +kernel
theorem dX12_show_42 : decode cX12_show 42 = .ok (.aload_n 0, 1) := by decide +kernel
theorem dX12_show_43 : decode cX12_show 43 = .ok (.aload_n 0, 1) := by decide +kernel
theorem dX12_show_44 : decode cX12_show 44 = .ok (.getfield 271, 3) := by decide +kernel
theorem dX12_show_47 : decode cX12_show 47 = .ok (.iconst 1, 1) := by decide +kernel
theorem dX12_show_48 : decode cX12_show 48 = .ok (.isub, 1) := by decide +kernel
theorem dX12_show_49 : decode cX12_show 49 = .ok (.invokevirtual 346, 3) := by decide +kernel
theorem dX12_show_52 : decode cX12_show 52 = .ok (.goto (-27), 3) := by decide +kernel
theorem dX12_show_55 : decode cX12_show 55 = .ok (.aload_n 0, 1) := by decide +kernel
theorem dX12_show_56 : decode cX12_show 56 = .ok (.getfield 323, 3) := by decide +kernel
theorem dX12_show_59 : decode cX12_show 59 = .ok (.sipush 4000, 3) := by decide +kernel
theorem dX12_show_62 : decode cX12_show 62 = .ok (.if_icmp .le 6, 3) := by decide +kernel
theorem dX12_show_65 : decode cX12_show 65 = .ok (.bipush (-4), 2) := by decide +kernel
theorem dX12_show_67 : decode cX12_show 67 = .ok (.ireturn, 1) := by decide +kernel
theorem dX12_show_68 : decode cX12_show 68 = .ok (.iconst 0, 1) := by decide +kernel
theorem dX12_show_69 : decode cX12_show 69 = .ok (.istore_n 2, 1) := by decide +kernel
theorem dX12_show_70 : decode cX12_show 70 = .ok (.iload_n 2, 1) := by decide +kernel
theorem dX12_show_71 : decode cX12_show 71 = .ok (.aload_n 0, 1) := by decide +kernel
theorem dX12_show_72 : decode cX12_show 72 = .ok (.getfield 323, 3) := by decide +kernel
theorem dX12_show_75 : decode cX12_show 75 = .ok (.if_icmp .ge 21, 3) := by decide +kernel
theorem dX12_show_78 : decode cX12_show 78 = .ok (.aload_n 0, 1) := by decide +kernel
theorem dX12_show_79 : decode cX12_show 79 = .ok (.getfield 112, 3) := by decide +kernel
theorem dX12_show_82 : decode cX12_show 82 = .ok (.iload_n 2, 1) := by decide +kernel
theorem dX12_show_83 : decode cX12_show 83 = .ok (.aload_n 0, 1) := by decide +kernel
theorem dX12_show_84 : decode cX12_show 84 = .ok (.getfield 108, 3) := by decide +kernel
theorem dX12_show_87 : decode cX12_show 87 = .ok (.iload_n 2, 1) := by decide +kernel
theorem dX12_show_88 : decode cX12_show 88 = .ok (.baload, 1) := by decide +kernel
theorem dX12_show_89 : decode cX12_show 89 = .ok (.bastore, 1) := by decide +kernel
theorem dX12_show_90 : decode cX12_show 90 = .ok (.iinc 2 1, 3) := by decide +kernel
theorem dX12_show_93 : decode cX12_show 93 = .ok (.goto (-23), 3) := by decide +kernel
theorem dX12_show_96 : decode cX12_show 96 = .ok (.aload_n 0, 1) := by decide +kernel
theorem dX12_show_97 : decode cX12_show 97 = .ok (.aload_n 0, 1) := by decide +kernel
theorem dX12_show_98 : decode cX12_show 98 = .ok (.getfield 323, 3) := by decide +kernel
theorem dX12_show_101 : decode cX12_show 101 = .ok (.putfield 349, 3) := by decide +kernel
theorem dX12_show_104 : decode cX12_show 104 = .ok (.aload_n 0, 1) := by decide +kernel
theorem dX12_show_105 : decode cX12_show 105 = .ok (.getfield 349, 3) := by decide +kernel
theorem dX12_show_108 : decode cX12_show 108 = .ok (.ireturn, 1) := by decide +kernel
def L_X12_show_25 (d : Nat) (v0 : Option Nm) (h : MH) (u : Nat) (Q : Int32 → MH → Prop) : Prop := T u_X12_show (d + 5) 25 [some (jR v0), none, none] [] h u (qI Q)
def L_X12_show_70 (d : Nat) (v0 : Option Nm) (v2 : Int32) (h : MH) (u : Nat) (Q : Int32 → MH → Prop) : Prop := T u_X12_show (d + 5) 70 [some (jR v0), none, some (jI v2)] [] h u (qI Q)
def F_X12_show (d : Nat) (v0 : Option Nm) (v1 : Int32) (h : MH) (u : Nat) (Q : Int32 → MH → Prop) : Prop :=
  rc h v0 11 ∧ F_X12_isValue (d + 3) v0 v1 h 0 fun x1 h =>
  if x1 = 0 then
    Q (-1) h
  else
    pV h v0 11 43 (jI 0) fun h =>
    pV h v0 11 35 (jI 0) fun h =>
    rc h v0 11 ∧ F_X12_saysThing (d + 2) v0 v1 h 0 fun h =>
    L_X12_show_25 d v0 h u Q
set_option maxRecDepth 20000 in
theorem E_X12_show {d : Nat} {v0 : Option Nm} {v1 : Int32} {h : MH} {u : Nat} {Q : Int32 → MH → Prop} (H : F_X12_show d v0 v1 h u Q) : T u_X12_show (d + 5) 0 [some (jR v0), some (jI v1), none] [] h u (qI Q) := by
  unfold F_X12_show at H
  refine T_aload_n (pc := 0) dX12_show_0 rfl rfl ?_
  refine T_iload_n (pc := 1) dX12_show_1 rfl rfl ?_
  obtain ⟨H0, H⟩ := H
  refine T_iV (pc := 2) (ci := 11) (av := [jI v1]) (rest := []) (o := v0) dX12_show_2 mf_X12_isValue c_5_155 c_5_157 pr_X12_isValue rfl rfl (Nat.le_of_ble_eq_true rfl) rfl H0 (iI_k (iI_m0 (fun x1 h H => ?_) (J_X12_isValue (d := (d + 3)) H)))
  refine T_if_ne (pc := 5) (tgt := 10) dX12_show_5 (by decide) (fun hc => ?_) (fun hc => ?_)
  · rw [if_neg hc] at H
    refine T_aload_n (pc := 10) dX12_show_10 rfl rfl ?_
    refine T_iconst (pc := 11) (v := 0) dX12_show_11 (by decide) ?_
    refine T_pV (pc := 12) fa_X12_323 dX12_show_12 trivial (pV_mono (fun h H => ?_) H)
    refine T_aload_n (pc := 15) dX12_show_15 rfl rfl ?_
    refine T_iconst (pc := 16) (v := 0) dX12_show_16 (by decide) ?_
    refine T_pV (pc := 17) fa_X12_271 dX12_show_17 trivial (pV_mono (fun h H => ?_) H)
    refine T_aload_n (pc := 20) dX12_show_20 rfl rfl ?_
    refine T_iload_n (pc := 21) dX12_show_21 rfl rfl ?_
    obtain ⟨H0, H⟩ := H
    refine T_iV (pc := 22) (ci := 11) (av := [jI v1]) (rest := []) (o := v0) dX12_show_22 mf_X12_saysThing c_6_151 c_6_153 pr_X12_saysThing rfl rfl (Nat.le_of_ble_eq_true rfl) rfl H0 (iV_k (iV_m0 (fun h H => ?_) (J_X12_saysThing (d := (d + 2)) H)))
    exact T.forget H ⟨rfl, trivial⟩
  · rw [if_pos hc] at H
    refine T_iconst (pc := 8) (v := (-1)) dX12_show_8 (by decide) ?_
    exact T_ireturn (pc := 9) rfl rfl dX12_show_9 H
def F_X12_show_25 (d : Nat) (v0 : Option Nm) (h : MH) (u : Nat) (Q : Int32 → MH → Prop) : Prop :=
  gI h v0 11 35 fun x1 =>
  if x1 ≤ 0 then
    gI h v0 11 43 fun x2 =>
    if x2 ≤ 4000 then
      L_X12_show_70 d v0 0 h u Q
    else
      Q (-4) h
  else
    gI h v0 11 43 fun x3 =>
    if 4000 < x3 then
      gI h v0 11 43 fun x4 =>
      if x4 ≤ 4000 then
        L_X12_show_70 d v0 0 h u Q
      else
        Q (-4) h
    else
      gI h v0 11 35 fun x5 =>
      rc h v0 11 ∧ F_X12_saysNext d v0 (x5 - 1) h 0 fun h =>
      L_X12_show_25 d v0 h u Q
set_option maxRecDepth 20000 in
theorem E_X12_show_25 {d : Nat} {v0 : Option Nm} {h : MH} {u : Nat} {Q : Int32 → MH → Prop} (H : F_X12_show_25 d v0 h u Q) : T u_X12_show (d + 5) 25 [some (jR v0), none, none] [] h u (qI Q) := by
  unfold F_X12_show_25 at H
  refine T_aload_n (pc := 25) dX12_show_25 rfl rfl ?_
  refine T_gI (pc := 26) fa_X12_271 dX12_show_26 (gI_mono (fun x1 H => ?_) H)
  refine T_if_le (pc := 29) (tgt := 55) dX12_show_29 (by decide) (fun hc => ?_) (fun hc => ?_)
  · rw [if_pos hc] at H
    refine T_aload_n (pc := 55) dX12_show_55 rfl rfl ?_
    refine T_gI (pc := 56) fa_X12_323 dX12_show_56 (gI_mono (fun x2 H => ?_) H)
    refine T_sipush (pc := 59) (v := 4000) dX12_show_59 (by decide) ?_
    refine T_icmp_le (pc := 62) (tgt := 68) dX12_show_62 (by decide) (fun hc => ?_) (fun hc => ?_)
    · rw [if_pos hc] at H
      refine T_iconst (pc := 68) (v := 0) dX12_show_68 (by decide) ?_
      refine T_istore_n (pc := 69) (ls2 := [some (jR v0), none, some (jI 0)]) dX12_show_69 rfl (Nat.le_of_ble_eq_true rfl) rfl ?_
      exact T.forget H ⟨rfl, rfl, trivial⟩
    · rw [if_neg hc] at H
      refine T_bipush (pc := 65) (v := (-4)) dX12_show_65 (by decide) ?_
      exact T_ireturn (pc := 67) rfl rfl dX12_show_67 H
  · rw [if_neg hc] at H
    refine T_aload_n (pc := 32) dX12_show_32 rfl rfl ?_
    refine T_gI (pc := 33) fa_X12_323 dX12_show_33 (gI_mono (fun x3 H => ?_) H)
    refine T_sipush (pc := 36) (v := 4000) dX12_show_36 (by decide) ?_
    refine T_icmp_gt (pc := 39) (tgt := 55) dX12_show_39 (by decide) (fun hc => ?_) (fun hc => ?_)
    · rw [if_pos hc] at H
      refine T_aload_n (pc := 55) dX12_show_55 rfl rfl ?_
      refine T_gI (pc := 56) fa_X12_323 dX12_show_56 (gI_mono (fun x4 H => ?_) H)
      refine T_sipush (pc := 59) (v := 4000) dX12_show_59 (by decide) ?_
      refine T_icmp_le (pc := 62) (tgt := 68) dX12_show_62 (by decide) (fun hc => ?_) (fun hc => ?_)
      · rw [if_pos hc] at H
        refine T_iconst (pc := 68) (v := 0) dX12_show_68 (by decide) ?_
        refine T_istore_n (pc := 69) (ls2 := [some (jR v0), none, some (jI 0)]) dX12_show_69 rfl (Nat.le_of_ble_eq_true rfl) rfl ?_
        exact T.forget H ⟨rfl, rfl, trivial⟩
      · rw [if_neg hc] at H
        refine T_bipush (pc := 65) (v := (-4)) dX12_show_65 (by decide) ?_
        exact T_ireturn (pc := 67) rfl rfl dX12_show_67 H
    · rw [if_neg hc] at H
      refine T_aload_n (pc := 42) dX12_show_42 rfl rfl ?_
      refine T_aload_n (pc := 43) dX12_show_43 rfl rfl ?_
      refine T_gI (pc := 44) fa_X12_271 dX12_show_44 (gI_mono (fun x5 H => ?_) H)
      refine T_iconst (pc := 47) (v := 1) dX12_show_47 (by decide) ?_
      refine T_isub (pc := 48) dX12_show_48 ?_
      obtain ⟨H0, H⟩ := H
      refine T_iV (pc := 49) (ci := 11) (av := [jI (x5 - 1)]) (rest := []) (o := v0) dX12_show_49 mf_X12_saysNext c_6_165 c_6_167 pr_X12_saysNext rfl rfl (Nat.le_of_ble_eq_true rfl) rfl H0 (iV_k (iV_m0 (fun h H => ?_) (J_X12_saysNext (d := d) H)))
      refine T_goto (pc := 52) (tgt := 25) dX12_show_52 (by decide) ?_
      exact T.forget H ⟨rfl, trivial⟩
def F_X12_show_70 (d : Nat) (v0 : Option Nm) (v2 : Int32) (h : MH) (u : Nat) (Q : Int32 → MH → Prop) : Prop :=
  gI h v0 11 43 fun x1 =>
  if x1 ≤ v2 then
    gI h v0 11 43 fun x2 =>
    pV h v0 11 45 (jI x2) fun h =>
    gI h v0 11 45 fun x3 =>
    Q x3 h
  else
    gR h v0 11 44 fun x4 =>
    gR h v0 11 42 fun x5 =>
    aI .byte h x5 v2 fun x6 =>
    sV .byte h x4 v2 (jI x6.toInt8.toInt32) fun h =>
    L_X12_show_70 d v0 (v2 + 1) h u Q
set_option maxRecDepth 20000 in
theorem E_X12_show_70 {d : Nat} {v0 : Option Nm} {v2 : Int32} {h : MH} {u : Nat} {Q : Int32 → MH → Prop} (H : F_X12_show_70 d v0 v2 h u Q) : T u_X12_show (d + 5) 70 [some (jR v0), none, some (jI v2)] [] h u (qI Q) := by
  unfold F_X12_show_70 at H
  refine T_iload_n (pc := 70) dX12_show_70 rfl rfl ?_
  refine T_aload_n (pc := 71) dX12_show_71 rfl rfl ?_
  refine T_gI (pc := 72) fa_X12_323 dX12_show_72 (gI_mono (fun x1 H => ?_) H)
  refine T_icmp_ge (pc := 75) (tgt := 96) dX12_show_75 (by decide) (fun hc => ?_) (fun hc => ?_)
  · rw [if_pos hc] at H
    refine T_aload_n (pc := 96) dX12_show_96 rfl rfl ?_
    refine T_aload_n (pc := 97) dX12_show_97 rfl rfl ?_
    refine T_gI (pc := 98) fa_X12_323 dX12_show_98 (gI_mono (fun x2 H => ?_) H)
    refine T_pV (pc := 101) fa_X12_349 dX12_show_101 trivial (pV_mono (fun h H => ?_) H)
    refine T_aload_n (pc := 104) dX12_show_104 rfl rfl ?_
    refine T_gI (pc := 105) fa_X12_349 dX12_show_105 (gI_mono (fun x3 H => ?_) H)
    exact T_ireturn (pc := 108) rfl rfl dX12_show_108 H
  · rw [if_neg hc] at H
    refine T_aload_n (pc := 78) dX12_show_78 rfl rfl ?_
    refine T_gR (pc := 79) fa_X12_112 dX12_show_79 (gR_mono (fun x4 H => ?_) H)
    refine T_iload_n (pc := 82) dX12_show_82 rfl rfl ?_
    refine T_aload_n (pc := 83) dX12_show_83 rfl rfl ?_
    refine T_gR (pc := 84) fa_X12_108 dX12_show_84 (gR_mono (fun x5 H => ?_) H)
    refine T_iload_n (pc := 87) dX12_show_87 rfl rfl ?_
    refine T_aB (pc := 88) dX12_show_88 (aI_mono (fun x6 H => ?_) H)
    refine T_sB (pc := 89) dX12_show_89 (sV_mono (fun h H => ?_) H)
    refine T_iinc (pc := 90) (v := v2 + 1) (ls2 := [some (jR v0), none, some (jI (v2 + 1))]) dX12_show_90 rfl rfl (Nat.le_of_ble_eq_true rfl) rfl ?_
    refine T_goto (pc := 93) (tgt := 70) dX12_show_93 (by decide) ?_
    exact T.forget H ⟨rfl, rfl, trivial⟩
theorem I_X12_show {d : Nat} {v0 : Option Nm} {v1 : Int32} {h : MH} {u : Nat} {K : Int32 → MH → Nat → Prop} (u1 : Nat) (hu : u1 ≤ u) (H : F_X12_show d v0 v1 h u1 (fun x h2 => K x h2 (u - u1))) : iI (d + 5) u_X12_show [jR v0, jI v1] h u K := inv.of u1 hu (Ct.of (by decide +kernel) rfl (Nat.le_of_ble_eq_true rfl) rfl (E_X12_show H))
theorem J_X12_show {d : Nat} {v0 : Option Nm} {v1 : Int32} {h : MH} {u : Nat} {K : Int32 → MH → Prop} (H : F_X12_show d v0 v1 h 0 K) : iI (d + 5) u_X12_show [jR v0, jI v1] h u (fun x h2 u2 => K x h2 ∧ u2 = u) := jiI (by decide +kernel) rfl (Nat.le_of_ble_eq_true rfl) rfl (E_X12_show H)
theorem dX12_told_0 : decode cX12_told 0 = .ok (.iload_n 1, 1) := by decide +kernel
theorem dX12_told_1 : decode cX12_told 1 = .ok (.tableswitch 101 0 5 #[39, 44, 49, 54, 59, 96], 39) := by decide +kernel
theorem dX12_told_40 : decode cX12_told 40 = .ok (.aload_n 0, 1) := by decide +kernel
theorem dX12_told_41 : decode cX12_told 41 = .ok (.getfield 153, 3) := by decide +kernel
theorem dX12_told_44 : decode cX12_told 44 = .ok (.ireturn, 1) := by decide +kernel
theorem dX12_told_45 : decode cX12_told 45 = .ok (.aload_n 0, 1) := by decide +kernel
theorem dX12_told_46 : decode cX12_told 46 = .ok (.getfield 199, 3) := by decide +kernel
theorem dX12_told_49 : decode cX12_told 49 = .ok (.ireturn, 1) := by decide +kernel
theorem dX12_told_50 : decode cX12_told 50 = .ok (.aload_n 0, 1) := by decide +kernel
theorem dX12_told_51 : decode cX12_told 51 = .ok (.getfield 228, 3) := by decide +kernel
theorem dX12_told_54 : decode cX12_told 54 = .ok (.ireturn, 1) := by decide +kernel
theorem dX12_told_55 : decode cX12_told 55 = .ok (.aload_n 0, 1) := by decide +kernel
theorem dX12_told_56 : decode cX12_told 56 = .ok (.getfield 215, 3) := by decide +kernel
theorem dX12_told_59 : decode cX12_told 59 = .ok (.ireturn, 1) := by decide +kernel
theorem dX12_told_60 : decode cX12_told 60 = .ok (.iconst 0, 1) := by decide +kernel
theorem dX12_told_61 : decode cX12_told 61 = .ok (.istore_n 2, 1) := by decide +kernel
theorem dX12_told_62 : decode cX12_told 62 = .ok (.iconst 0, 1) := by decide +kernel
theorem dX12_told_63 : decode cX12_told 63 = .ok (.istore_n 3, 1) := by decide +kernel
theorem dX12_told_64 : decode cX12_told 64 = .ok (.iload_n 3, 1) := by decide +kernel
theorem dX12_told_65 : decode cX12_told 65 = .ok (.aload_n 0, 1) := by decide +kernel
theorem dX12_told_66 : decode cX12_told 66 = .ok (.getfield 199, 3) := by decide +kernel
theorem dX12_told_69 : decode cX12_told 69 = .ok (.if_icmp .ge 26, 3) := by decide +kernel
theorem dX12_told_72 : decode cX12_told 72 = .ok (.iload_n 2, 1) := by decide +kernel
theorem dX12_told_73 : decode cX12_told 73 = .ok (.aload_n 0, 1) := by decide +kernel
theorem dX12_told_74 : decode cX12_told 74 = .ok (.getfield 33, 3) := by decide +kernel
theorem dX12_told_77 : decode cX12_told 77 = .ok (.iload_n 3, 1) := by decide +kernel
theorem dX12_told_78 : decode cX12_told 78 = .ok (.baload, 1) := by decide +kernel
theorem dX12_told_79 : decode cX12_told 79 = .ok (.ifCond .eq 7, 3) := by decide +kernel
theorem dX12_told_82 : decode cX12_told 82 = .ok (.iconst 1, 1) := by decide +kernel
theorem dX12_told_83 : decode cX12_told 83 = .ok (.goto 4, 3) := by decide +kernel
theorem dX12_told_86 : decode cX12_told 86 = .ok (.iconst 0, 1) := by decide +kernel
theorem dX12_told_87 : decode cX12_told 87 = .ok (.iadd, 1) := by decide +kernel
theorem dX12_told_88 : decode cX12_told 88 = .ok (.istore_n 2, 1) := by decide +kernel
theorem dX12_told_89 : decode cX12_told 89 = .ok (.iinc 3 1, 3) := by decide +kernel
theorem dX12_told_92 : decode cX12_told 92 = .ok (.goto (-28), 3) := by decide +kernel
theorem dX12_told_95 : decode cX12_told 95 = .ok (.iload_n 2, 1) := by decide +kernel
theorem dX12_told_96 : decode cX12_told 96 = .ok (.ireturn, 1) := by decide +kernel
theorem dX12_told_97 : decode cX12_told 97 = .ok (.aload_n 0, 1) := by decide +kernel
theorem dX12_told_98 : decode cX12_told 98 = .ok (.getfield 121, 3) := by decide +kernel
theorem dX12_told_101 : decode cX12_told 101 = .ok (.ireturn, 1) := by decide +kernel
theorem dX12_told_102 : decode cX12_told 102 = .ok (.bipush (-2), 2) := by decide +kernel
theorem dX12_told_104 : decode cX12_told 104 = .ok (.ireturn, 1) := by decide +kernel
def L_X12_told_64 (d : Nat) (v0 : Option Nm) (v2 : Int32) (v3 : Int32) (h : MH) (u : Nat) (Q : Int32 → MH → Prop) : Prop := T u_X12_told d 64 [some (jR v0), none, some (jI v2), some (jI v3)] [] h u (qI Q)
def F_X12_told (d : Nat) (v0 : Option Nm) (v1 : Int32) (h : MH) (u : Nat) (Q : Int32 → MH → Prop) : Prop :=
  if v1 = 0 then
    gI h v0 11 3 fun x1 =>
    Q x1 h
  else if v1 = 1 then
    gI h v0 11 9 fun x2 =>
    Q x2 h
  else if v1 = 2 then
    gI h v0 11 19 fun x3 =>
    Q x3 h
  else if v1 = 3 then
    gI h v0 11 24 fun x4 =>
    Q x4 h
  else if v1 = 4 then
    L_X12_told_64 d v0 0 0 h u Q
  else if v1 = 5 then
    gI h v0 11 1 fun x5 =>
    Q x5 h
  else 
    Q (-2) h
set_option maxRecDepth 20000 in
theorem E_X12_told {d : Nat} {v0 : Option Nm} {v1 : Int32} {h : MH} {u : Nat} {Q : Int32 → MH → Prop} (H : F_X12_told d v0 v1 h u Q) : T u_X12_told d 0 [some (jR v0), some (jI v1), none, none] [] h u (qI Q) := by
  unfold F_X12_told at H
  refine T_iload_n (pc := 0) dX12_told_0 rfl rfl ?_
  by_cases h0 : v1 = 0
  · rw [if_pos h0] at H
    refine T_tableIn (pc := 1) (off := 39) (tgt := 40) dX12_told_1 (by rw [h0]; decide) (by rw [h0]; decide) (by rw [h0]; rfl) (by decide) ?_
    refine T_aload_n (pc := 40) dX12_told_40 rfl rfl ?_
    refine T_gI (pc := 41) fa_X12_153 dX12_told_41 (gI_mono (fun x1 H => ?_) H)
    exact T_ireturn (pc := 44) rfl rfl dX12_told_44 H
  rw [if_neg h0] at H
  by_cases h1 : v1 = 1
  · rw [if_pos h1] at H
    refine T_tableIn (pc := 1) (off := 44) (tgt := 45) dX12_told_1 (by rw [h1]; decide) (by rw [h1]; decide) (by rw [h1]; rfl) (by decide) ?_
    refine T_aload_n (pc := 45) dX12_told_45 rfl rfl ?_
    refine T_gI (pc := 46) fa_X12_199 dX12_told_46 (gI_mono (fun x2 H => ?_) H)
    exact T_ireturn (pc := 49) rfl rfl dX12_told_49 H
  rw [if_neg h1] at H
  by_cases h2 : v1 = 2
  · rw [if_pos h2] at H
    refine T_tableIn (pc := 1) (off := 49) (tgt := 50) dX12_told_1 (by rw [h2]; decide) (by rw [h2]; decide) (by rw [h2]; rfl) (by decide) ?_
    refine T_aload_n (pc := 50) dX12_told_50 rfl rfl ?_
    refine T_gI (pc := 51) fa_X12_228 dX12_told_51 (gI_mono (fun x3 H => ?_) H)
    exact T_ireturn (pc := 54) rfl rfl dX12_told_54 H
  rw [if_neg h2] at H
  by_cases h3 : v1 = 3
  · rw [if_pos h3] at H
    refine T_tableIn (pc := 1) (off := 54) (tgt := 55) dX12_told_1 (by rw [h3]; decide) (by rw [h3]; decide) (by rw [h3]; rfl) (by decide) ?_
    refine T_aload_n (pc := 55) dX12_told_55 rfl rfl ?_
    refine T_gI (pc := 56) fa_X12_215 dX12_told_56 (gI_mono (fun x4 H => ?_) H)
    exact T_ireturn (pc := 59) rfl rfl dX12_told_59 H
  rw [if_neg h3] at H
  by_cases h4 : v1 = 4
  · rw [if_pos h4] at H
    refine T_tableIn (pc := 1) (off := 59) (tgt := 60) dX12_told_1 (by rw [h4]; decide) (by rw [h4]; decide) (by rw [h4]; rfl) (by decide) ?_
    refine T_iconst (pc := 60) (v := 0) dX12_told_60 (by decide) ?_
    refine T_istore_n (pc := 61) (ls2 := [some (jR v0), some (jI v1), some (jI 0), none]) dX12_told_61 rfl (Nat.le_of_ble_eq_true rfl) rfl ?_
    refine T_iconst (pc := 62) (v := 0) dX12_told_62 (by decide) ?_
    refine T_istore_n (pc := 63) (ls2 := [some (jR v0), some (jI v1), some (jI 0), some (jI 0)]) dX12_told_63 rfl (Nat.le_of_ble_eq_true rfl) rfl ?_
    exact T.forget H ⟨rfl, rfl, rfl, trivial⟩
  rw [if_neg h4] at H
  by_cases h5 : v1 = 5
  · rw [if_pos h5] at H
    refine T_tableIn (pc := 1) (off := 96) (tgt := 97) dX12_told_1 (by rw [h5]; decide) (by rw [h5]; decide) (by rw [h5]; rfl) (by decide) ?_
    refine T_aload_n (pc := 97) dX12_told_97 rfl rfl ?_
    refine T_gI (pc := 98) fa_X12_121 dX12_told_98 (gI_mono (fun x5 H => ?_) H)
    exact T_ireturn (pc := 101) rfl rfl dX12_told_101 H
  rw [if_neg h5] at H
  have e0 : (v1 : Int32).toInt ≠ 0 := fun q => h0 (Int32.toInt_inj.mp (q.trans (by decide)))
  have e1 : (v1 : Int32).toInt ≠ 1 := fun q => h1 (Int32.toInt_inj.mp (q.trans (by decide)))
  have e2 : (v1 : Int32).toInt ≠ 2 := fun q => h2 (Int32.toInt_inj.mp (q.trans (by decide)))
  have e3 : (v1 : Int32).toInt ≠ 3 := fun q => h3 (Int32.toInt_inj.mp (q.trans (by decide)))
  have e4 : (v1 : Int32).toInt ≠ 4 := fun q => h4 (Int32.toInt_inj.mp (q.trans (by decide)))
  have e5 : (v1 : Int32).toInt ≠ 5 := fun q => h5 (Int32.toInt_inj.mp (q.trans (by decide)))
  refine T_tableOut (pc := 1) (tgt := 102) dX12_told_1 (by omega) (by decide) ?_
  refine T_bipush (pc := 102) (v := (-2)) dX12_told_102 (by decide) ?_
  exact T_ireturn (pc := 104) rfl rfl dX12_told_104 H
def F_X12_told_64 (d : Nat) (v0 : Option Nm) (v2 : Int32) (v3 : Int32) (h : MH) (u : Nat) (Q : Int32 → MH → Prop) : Prop :=
  gI h v0 11 9 fun x1 =>
  if x1 ≤ v3 then
    Q v2 h
  else
    gR h v0 11 12 fun x2 =>
    aI .boolean h x2 v3 fun x3 =>
    if x3 = 0 then
      L_X12_told_64 d v0 (v2 + 0) (v3 + 1) h u Q
    else
      L_X12_told_64 d v0 (v2 + 1) (v3 + 1) h u Q
set_option maxRecDepth 20000 in
theorem E_X12_told_64 {d : Nat} {v0 : Option Nm} {v2 : Int32} {v3 : Int32} {h : MH} {u : Nat} {Q : Int32 → MH → Prop} (H : F_X12_told_64 d v0 v2 v3 h u Q) : T u_X12_told d 64 [some (jR v0), none, some (jI v2), some (jI v3)] [] h u (qI Q) := by
  unfold F_X12_told_64 at H
  refine T_iload_n (pc := 64) dX12_told_64 rfl rfl ?_
  refine T_aload_n (pc := 65) dX12_told_65 rfl rfl ?_
  refine T_gI (pc := 66) fa_X12_199 dX12_told_66 (gI_mono (fun x1 H => ?_) H)
  refine T_icmp_ge (pc := 69) (tgt := 95) dX12_told_69 (by decide) (fun hc => ?_) (fun hc => ?_)
  · rw [if_pos hc] at H
    refine T_iload_n (pc := 95) dX12_told_95 rfl rfl ?_
    exact T_ireturn (pc := 96) rfl rfl dX12_told_96 H
  · rw [if_neg hc] at H
    refine T_iload_n (pc := 72) dX12_told_72 rfl rfl ?_
    refine T_aload_n (pc := 73) dX12_told_73 rfl rfl ?_
    refine T_gR (pc := 74) fa_X12_33 dX12_told_74 (gR_mono (fun x2 H => ?_) H)
    refine T_iload_n (pc := 77) dX12_told_77 rfl rfl ?_
    refine T_aZ (pc := 78) dX12_told_78 (aI_mono (fun x3 H => ?_) H)
    refine T_if_eq (pc := 79) (tgt := 86) dX12_told_79 (by decide) (fun hc => ?_) (fun hc => ?_)
    · rw [if_pos hc] at H
      refine T_iconst (pc := 86) (v := 0) dX12_told_86 (by decide) ?_
      refine T_iadd (pc := 87) dX12_told_87 ?_
      refine T_istore_n (pc := 88) (ls2 := [some (jR v0), none, some (jI (v2 + 0)), some (jI v3)]) dX12_told_88 rfl (Nat.le_of_ble_eq_true rfl) rfl ?_
      refine T_iinc (pc := 89) (v := v3 + 1) (ls2 := [some (jR v0), none, some (jI (v2 + 0)), some (jI (v3 + 1))]) dX12_told_89 rfl rfl (Nat.le_of_ble_eq_true rfl) rfl ?_
      refine T_goto (pc := 92) (tgt := 64) dX12_told_92 (by decide) ?_
      exact T.forget H ⟨rfl, rfl, rfl, trivial⟩
    · rw [if_neg hc] at H
      refine T_iconst (pc := 82) (v := 1) dX12_told_82 (by decide) ?_
      refine T_goto (pc := 83) (tgt := 87) dX12_told_83 (by decide) ?_
      refine T_iadd (pc := 87) dX12_told_87 ?_
      refine T_istore_n (pc := 88) (ls2 := [some (jR v0), none, some (jI (v2 + 1)), some (jI v3)]) dX12_told_88 rfl (Nat.le_of_ble_eq_true rfl) rfl ?_
      refine T_iinc (pc := 89) (v := v3 + 1) (ls2 := [some (jR v0), none, some (jI (v2 + 1)), some (jI (v3 + 1))]) dX12_told_89 rfl rfl (Nat.le_of_ble_eq_true rfl) rfl ?_
      refine T_goto (pc := 92) (tgt := 64) dX12_told_92 (by decide) ?_
      exact T.forget H ⟨rfl, rfl, rfl, trivial⟩
theorem I_X12_told {d : Nat} {v0 : Option Nm} {v1 : Int32} {h : MH} {u : Nat} {K : Int32 → MH → Nat → Prop} (u1 : Nat) (hu : u1 ≤ u) (H : F_X12_told d v0 v1 h u1 (fun x h2 => K x h2 (u - u1))) : iI d u_X12_told [jR v0, jI v1] h u K := inv.of u1 hu (Ct.of (by decide +kernel) rfl (Nat.le_of_ble_eq_true rfl) rfl (E_X12_told H))
theorem J_X12_told {d : Nat} {v0 : Option Nm} {v1 : Int32} {h : MH} {u : Nat} {K : Int32 → MH → Prop} (H : F_X12_told d v0 v1 h 0 K) : iI d u_X12_told [jR v0, jI v1] h u (fun x h2 u2 => K x h2 ∧ u2 = u) := jiI (by decide +kernel) rfl (Nat.le_of_ble_eq_true rfl) rfl (E_X12_told H)
theorem dX12_trace_0 : decode cX12_trace 0 = .ok (.aload_n 0, 1) := by decide +kernel
theorem dX12_trace_1 : decode cX12_trace 1 = .ok (.getfield 128, 3) := by decide +kernel
theorem dX12_trace_4 : decode cX12_trace 4 = .ok (.ireturn, 1) := by decide +kernel
def F_X12_trace (d : Nat) (v0 : Option Nm) (h : MH) (u : Nat) (Q : Int32 → MH → Prop) : Prop :=
  gI h v0 11 2 fun x1 =>
  Q x1 h
set_option maxRecDepth 20000 in
theorem E_X12_trace {d : Nat} {v0 : Option Nm} {h : MH} {u : Nat} {Q : Int32 → MH → Prop} (H : F_X12_trace d v0 h u Q) : T u_X12_trace d 0 [some (jR v0)] [] h u (qI Q) := by
  unfold F_X12_trace at H
  refine T_aload_n (pc := 0) dX12_trace_0 rfl rfl ?_
  refine T_gI (pc := 1) fa_X12_128 dX12_trace_1 (gI_mono (fun x1 H => ?_) H)
  exact T_ireturn (pc := 4) rfl rfl dX12_trace_4 H
theorem I_X12_trace {d : Nat} {v0 : Option Nm} {h : MH} {u : Nat} {K : Int32 → MH → Nat → Prop} (u1 : Nat) (hu : u1 ≤ u) (H : F_X12_trace d v0 h u1 (fun x h2 => K x h2 (u - u1))) : iI d u_X12_trace [jR v0] h u K := inv.of u1 hu (Ct.of (by decide +kernel) rfl (Nat.le_of_ble_eq_true rfl) rfl (E_X12_trace H))
theorem J_X12_trace {d : Nat} {v0 : Option Nm} {h : MH} {u : Nat} {K : Int32 → MH → Prop} (H : F_X12_trace d v0 h 0 K) : iI d u_X12_trace [jR v0] h u (fun x h2 u2 => K x h2 ∧ u2 = u) := jiI (by decide +kernel) rfl (Nat.le_of_ble_eq_true rfl) rfl (E_X12_trace H)
theorem dX12_twin_0 : decode cX12_twin 0 = .ok (.aload_n 0, 1) := by decide +kernel
theorem dX12_twin_1 : decode cX12_twin 1 = .ok (.iload_n 1, 1) := by decide +kernel
theorem dX12_twin_2 : decode cX12_twin 2 = .ok (.invokevirtual 170, 3) := by decide +kernel
theorem dX12_twin_5 : decode cX12_twin 5 = .ok (.ifCond .ne 5, 3) := by decide +kernel
theorem dX12_twin_8 : decode cX12_twin 8 = .ok (.iconst (-1), 1) := by decide +kernel
theorem dX12_twin_9 : decode cX12_twin 9 = .ok (.ireturn, 1) := by decide +kernel
theorem dX12_twin_10 : decode cX12_twin 10 = .ok (.aload_n 0, 1) := by decide +kernel
theorem dX12_twin_11 : decode cX12_twin 11 = .ok (.getfield 153, 3) := by decide +kernel
theorem dX12_twin_14 : decode cX12_twin 14 = .ok (.bipush 60, 2) := by decide +kernel
theorem dX12_twin_16 : decode cX12_twin 16 = .ok (.if_icmp .ne 8, 3) := by decide +kernel
theorem dX12_twin_19 : decode cX12_twin 19 = .ok (.bipush (-4), 2) := by decide +kernel
theorem dX12_twin_21 : decode cX12_twin 21 = .ok (.goto 8, 3) := by decide +kernel
theorem dX12_twin_24 : decode cX12_twin 24 = .ok (.aload_n 0, 1) := by decide +kernel
theorem dX12_twin_25 : decode cX12_twin 25 = .ok (.iload_n 1, 1) := by decide +kernel
theorem dX12_twin_26 : decode cX12_twin 26 = .ok (.invokevirtual 196, 3) := by decide +kernel
theorem dX12_twin_29 : decode cX12_twin 29 = .ok (.ireturn, 1) := by decide +kernel
def F_X12_twin (d : Nat) (v0 : Option Nm) (v1 : Int32) (h : MH) (u : Nat) (Q : Int32 → MH → Prop) : Prop :=
  rc h v0 11 ∧ F_X12_isRow d v0 v1 h 0 fun x1 h =>
  if x1 = 0 then
    Q (-1) h
  else
    gI h v0 11 3 fun x2 =>
    if x2 = 60 then
      Q (-4) h
    else
      rc h v0 11 ∧ F_X12_twinOf d v0 v1 h 0 fun x3 h =>
      Q x3 h
set_option maxRecDepth 20000 in
theorem E_X12_twin {d : Nat} {v0 : Option Nm} {v1 : Int32} {h : MH} {u : Nat} {Q : Int32 → MH → Prop} (H : F_X12_twin d v0 v1 h u Q) : T u_X12_twin (d + 2) 0 [some (jR v0), some (jI v1)] [] h u (qI Q) := by
  unfold F_X12_twin at H
  refine T_aload_n (pc := 0) dX12_twin_0 rfl rfl ?_
  refine T_iload_n (pc := 1) dX12_twin_1 rfl rfl ?_
  obtain ⟨H0, H⟩ := H
  refine T_iV (pc := 2) (ci := 11) (av := [jI v1]) (rest := []) (o := v0) dX12_twin_2 mf_X12_isRow c_5_102 c_5_104 pr_X12_isRow rfl rfl (Nat.le_of_ble_eq_true rfl) rfl H0 (iI_k (iI_m0 (fun x1 h H => ?_) (J_X12_isRow (d := d) H)))
  refine T_if_ne (pc := 5) (tgt := 10) dX12_twin_5 (by decide) (fun hc => ?_) (fun hc => ?_)
  · rw [if_neg hc] at H
    refine T_aload_n (pc := 10) dX12_twin_10 rfl rfl ?_
    refine T_gI (pc := 11) fa_X12_153 dX12_twin_11 (gI_mono (fun x2 H => ?_) H)
    refine T_bipush (pc := 14) (v := 60) dX12_twin_14 (by decide) ?_
    refine T_icmp_ne (pc := 16) (tgt := 24) dX12_twin_16 (by decide) (fun hc => ?_) (fun hc => ?_)
    · rw [if_neg hc] at H
      refine T_aload_n (pc := 24) dX12_twin_24 rfl rfl ?_
      refine T_iload_n (pc := 25) dX12_twin_25 rfl rfl ?_
      obtain ⟨H0, H⟩ := H
      refine T_iV (pc := 26) (ci := 11) (av := [jI v1]) (rest := []) (o := v0) dX12_twin_26 mf_X12_twinOf c_5_178 c_5_180 pr_X12_twinOf rfl rfl (Nat.le_of_ble_eq_true rfl) rfl H0 (iI_k (iI_m0 (fun x3 h H => ?_) (J_X12_twinOf (d := d) H)))
      exact T_ireturn (pc := 29) rfl rfl dX12_twin_29 H
    · rw [if_pos hc] at H
      refine T_bipush (pc := 19) (v := (-4)) dX12_twin_19 (by decide) ?_
      refine T_goto (pc := 21) (tgt := 29) dX12_twin_21 (by decide) ?_
      exact T_ireturn (pc := 29) rfl rfl dX12_twin_29 H
  · rw [if_pos hc] at H
    refine T_iconst (pc := 8) (v := (-1)) dX12_twin_8 (by decide) ?_
    exact T_ireturn (pc := 9) rfl rfl dX12_twin_9 H
theorem I_X12_twin {d : Nat} {v0 : Option Nm} {v1 : Int32} {h : MH} {u : Nat} {K : Int32 → MH → Nat → Prop} (u1 : Nat) (hu : u1 ≤ u) (H : F_X12_twin d v0 v1 h u1 (fun x h2 => K x h2 (u - u1))) : iI (d + 2) u_X12_twin [jR v0, jI v1] h u K := inv.of u1 hu (Ct.of (by decide +kernel) rfl (Nat.le_of_ble_eq_true rfl) rfl (E_X12_twin H))
theorem J_X12_twin {d : Nat} {v0 : Option Nm} {v1 : Int32} {h : MH} {u : Nat} {K : Int32 → MH → Prop} (H : F_X12_twin d v0 v1 h 0 K) : iI (d + 2) u_X12_twin [jR v0, jI v1] h u (fun x h2 u2 => K x h2 ∧ u2 = u) := jiI (by decide +kernel) rfl (Nat.le_of_ble_eq_true rfl) rfl (E_X12_twin H)
theorem dX12_weight_0 : decode cX12_weight 0 = .ok (.aload_n 0, 1) := by decide +kernel
theorem dX12_weight_1 : decode cX12_weight 1 = .ok (.iload_n 1, 1) := by decide +kernel
theorem dX12_weight_2 : decode cX12_weight 2 = .ok (.invokevirtual 190, 3) := by decide +kernel
theorem dX12_weight_5 : decode cX12_weight 5 = .ok (.ifCond .ne 5, 3) := by decide +kernel
theorem dX12_weight_8 : decode cX12_weight 8 = .ok (.iconst (-1), 1) := by decide +kernel
theorem dX12_weight_9 : decode cX12_weight 9 = .ok (.ireturn, 1) := by decide +kernel
theorem dX12_weight_10 : decode cX12_weight 10 = .ok (.aload_n 0, 1) := by decide +kernel
theorem dX12_weight_11 : decode cX12_weight 11 = .ok (.iload_n 1, 1) := by decide +kernel
theorem dX12_weight_12 : decode cX12_weight 12 = .ok (.invokevirtual 261, 3) := by decide +kernel
theorem dX12_weight_15 : decode cX12_weight 15 = .ok (.ifCond .eq 9, 3) := by decide +kernel
theorem dX12_weight_18 : decode cX12_weight 18 = .ok (.aload_n 0, 1) := by decide +kernel
theorem dX12_weight_19 : decode cX12_weight 19 = .ok (.iload_n 1, 1) := by decide +kernel
theorem dX12_weight_20 : decode cX12_weight 20 = .ok (.invokevirtual 317, 3) := by decide +kernel
theorem dX12_weight_23 : decode cX12_weight 23 = .ok (.ireturn, 1) := by decide +kernel
theorem dX12_weight_24 : decode cX12_weight 24 = .ok (.aload_n 0, 1) := by decide +kernel
theorem dX12_weight_25 : decode cX12_weight 25 = .ok (.iconst 0, 1) := by decide +kernel
theorem dX12_weight_26 : decode cX12_weight 26 = .ok (.putfield 271, 3) := by decide +kernel
theorem dX12_weight_29 : decode cX12_weight 29 = .ok (.aload_n 0, 1) := by decide +kernel
theorem dX12_weight_30 : decode cX12_weight 30 = .ok (.iload_n 1, 1) := by decide +kernel
theorem dX12_weight_31 : decode cX12_weight 31 = .ok (.invokevirtual 320, 3) := by decide +kernel
theorem dX12_weight_34 : decode cX12_weight 34 = .ok (.istore_n 2, 1) := by decide +kernel
theorem dX12_weight_35 : decode cX12_weight 35 = .ok (.aload_n 0, 1) := by decide +kernel
theorem dX12_weight_36 : decode cX12_weight 36 = .ok (.getfield 271, 3) := by decide +kernel
theorem dX12_weight_39 : decode cX12_weight 39 = .ok (.ifCond .le 161, 3) := by decide +kernel
theorem dX12_weight_42 : decode cX12_weight 42 = .ok (.aload_n 0, 1) := by decide +kernel
theorem dX12_weight_43 : decode cX12_weight 43 = .ok (.getfield 271, 3) := by decide +kernel
theorem dX12_weight_46 : decode cX12_weight 46 = .ok (.iconst 1, 1) := by decide +kernel
theorem dX12_weight_47 : decode cX12_weight 47 = .ok (.isub, 1) := by decide +kernel
theorem dX12_weight_48 : decode cX12_weight 48 = .ok (.istore_n 3, 1) := by decide +kernel
theorem dX12_weight_49 : decode cX12_weight 49 = .ok (.aload_n 0, 1) := by decide +kernel
theorem dX12_weight_50 : decode cX12_weight 50 = .ok (.getfield 96, 3) := by decide +kernel
theorem dX12_weight_53 : decode cX12_weight 53 = .ok (.iload_n 3, 1) := by decide +kernel
theorem dX12_weight_54 : decode cX12_weight 54 = .ok (.iaload, 1) := by decide +kernel
theorem dX12_weight_55 : decode cX12_weight 55 = .ok (.istore 4, 2) := by decide +kernel
theorem dX12_weight_57 : decode cX12_weight 57 = .ok (.iload 4, 2) := by decide +kernel
theorem dX12_weight_59 : decode cX12_weight 59 = .ok (.aload_n 0, 1) := by decide +kernel
theorem dX12_weight_60 : decode cX12_weight 60 = .ok (.aload_n 0, 1) := by decide +kernel
theorem dX12_weight_61 : decode cX12_weight 61 = .ok (.getfield 90, 3) := by decide +kernel
theorem dX12_weight_64 : decode cX12_weight 64 = .ok (.iload_n 3, 1) := by decide +kernel
theorem dX12_weight_65 : decode cX12_weight 65 = .ok (.iaload, 1) := by decide +kernel
theorem dX12_weight_66 : decode cX12_weight 66 = .ok (.invokevirtual 264, 3) := by decide +kernel
theorem dX12_weight_69 : decode cX12_weight 69 = .ok (.if_icmp .ne 16, 3) := by decide +kernel
theorem dX12_weight_72 : decode cX12_weight 72 = .ok (.aload_n 0, 1) := by decide +kernel
theorem dX12_weight_73 : decode cX12_weight 73 = .ok (.dup, 1) := by decide +kernel
theorem dX12_weight_74 : decode cX12_weight 74 = .ok (.getfield 271, 3) := by decide +kernel
theorem dX12_weight_77 : decode cX12_weight 77 = .ok (.iconst 1, 1) := by decide +kernel
theorem dX12_weight_78 : decode cX12_weight 78 = .ok (.isub, 1) := by decide +kernel
theorem dX12_weight_79 : decode cX12_weight 79 = .ok (.putfield 271, 3) := by decide +kernel
theorem dX12_weight_82 : decode cX12_weight 82 = .ok (.goto (-47), 3) := by decide +kernel
theorem dX12_weight_85 : decode cX12_weight 85 = .ok (.aload_n 0, 1) := by decide +kernel
theorem dX12_weight_86 : decode cX12_weight 86 = .ok (.getfield 96, 3) := by decide +kernel
theorem dX12_weight_89 : decode cX12_weight 89 = .ok (.iload_n 3, 1) := by decide +kernel
theorem dX12_weight_90 : decode cX12_weight 90 = .ok (.dup2, 1) := by decide +kernel
theorem dX12_weight_91 : decode cX12_weight 91 = .ok (.iaload, 1) := by decide +kernel
theorem dX12_weight_92 : decode cX12_weight 92 = .ok (.iconst 1, 1) := by decide +kernel
theorem dX12_weight_93 : decode cX12_weight 93 = .ok (.iadd, 1) := by decide +kernel
theorem dX12_weight_94 : decode cX12_weight 94 = .ok (.iastore, 1) := by decide +kernel
theorem dX12_weight_95 : decode cX12_weight 95 = .ok (.aload_n 0, 1) := by decide +kernel
theorem dX12_weight_96 : decode cX12_weight 96 = .ok (.getfield 84, 3) := by decide +kernel
theorem dX12_weight_99 : decode cX12_weight 99 = .ok (.bipush 6, 2) := by decide +kernel
theorem dX12_weight_101 : decode cX12_weight 101 = .ok (.aload_n 0, 1) := by decide +kernel
theorem dX12_weight_102 : decode cX12_weight 102 = .ok (.getfield 90, 3) := by decide +kernel
theorem dX12_weight_105 : decode cX12_weight 105 = .ok (.iload_n 3, 1) := by decide +kernel
theorem dX12_weight_106 : decode cX12_weight 106 = .ok (.iaload, 1) := by decide +kernel
theorem dX12_weight_107 : decode cX12_weight 107 = .ok (.imul, 1) := by decide +kernel
theorem dX12_weight_108 : decode cX12_weight 108 = .ok (.iload 4, 2) := by decide +kernel
theorem dX12_weight_110 : decode cX12_weight 110 = .ok (.iadd, 1) := by decide +kernel
theorem dX12_weight_111 : decode cX12_weight 111 = .ok (.laload, 1) := by decide +kernel
theorem dX12_weight_112 : decode cX12_weight 112 = .ok (.l2i, 1) := by decide +kernel
theorem dX12_weight_113 : decode cX12_weight 113 = .ok (.istore 5, 2) := by decide +kernel
theorem dX12_weight_115 : decode cX12_weight 115 = .ok (.aload_n 0, 1) := by decide +kernel
theorem dX12_weight_116 : decode cX12_weight 116 = .ok (.aload_n 0, 1) := by decide +kernel
theorem dX12_weight_117 : decode cX12_weight 117 = .ok (.getfield 90, 3) := by decide +kernel
theorem dX12_weight_120 : decode cX12_weight 120 = .ok (.iload_n 3, 1) := by decide +kernel
theorem dX12_weight_121 : decode cX12_weight 121 = .ok (.iaload, 1) := by decide +kernel
theorem dX12_weight_122 : decode cX12_weight 122 = .ok (.iload 4, 2) := by decide +kernel
theorem dX12_weight_124 : decode cX12_weight 124 = .ok (.invokevirtual 256, 3) := by decide +kernel
theorem dX12_weight_127 : decode cX12_weight 127 = .ok (.istore 6, 2) := by decide +kernel
theorem dX12_weight_129 : decode cX12_weight 129 = .ok (.iload 6, 2) := by decide +kernel
theorem dX12_weight_131 : decode cX12_weight 131 = .ok (.bipush 9, 2) := by decide +kernel
theorem dX12_weight_133 : decode cX12_weight 133 = .ok (.if_icmp .ne 25, 3) := by decide +kernel
theorem dX12_weight_136 : decode cX12_weight 136 = .ok (.iload_n 2, 1) := by decide +kernel
theorem dX12_weight_137 : decode cX12_weight 137 = .ok (.iload 5, 2) := by decide +kernel
theorem dX12_weight_139 : decode cX12_weight 139 = .ok (.ifCond .ge 7, 3) := by decide +kernel
theorem dX12_weight_142 : decode cX12_weight 142 = .ok (.iconst 0, 1) := by decide +kernel
theorem dX12_weight_143 : decode cX12_weight 143 = .ok (.goto 10, 3) := by decide +kernel
theorem dX12_weight_146 : decode cX12_weight 146 = .ok (.aload_n 0, 1) := by decide +kernel
theorem dX12_weight_147 : decode cX12_weight 147 = .ok (.getfield 13, 3) := by decide +kernel
theorem dX12_weight_150 : decode cX12_weight 150 = .ok (.iload 5, 2) := by decide +kernel
theorem dX12_weight_152 : decode cX12_weight 152 = .ok (.iaload, 1) := by decide +kernel
theorem dX12_weight_153 : decode cX12_weight 153 = .ok (.iadd, 1) := by decide +kernel
theorem dX12_weight_154 : decode cX12_weight 154 = .ok (.istore_n 2, 1) := by decide +kernel
theorem dX12_weight_155 : decode cX12_weight 155 = .ok (.goto 42, 3) := by decide +kernel
theorem dX12_weight_158 : decode cX12_weight 158 = .ok (.iload 6, 2) := by decide +kernel
theorem dX12_weight_160 : decode cX12_weight 160 = .ok (.bipush 8, 2) := by decide +kernel
theorem dX12_weight_162 : decode cX12_weight 162 = .ok (.if_icmp .ne 35, 3) := by decide +kernel
theorem dX12_weight_165 : decode cX12_weight 165 = .ok (.iload 5, 2) := by decide +kernel
theorem dX12_weight_167 : decode cX12_weight 167 = .ok (.ifCond .lt 30, 3) := by decide +kernel
theorem dX12_weight_170 : decode cX12_weight 170 = .ok (.iload_n 2, 1) := by decide +kernel
theorem dX12_weight_171 : decode cX12_weight 171 = .ok (.aload_n 0, 1) := by decide +kernel
theorem dX12_weight_172 : decode cX12_weight 172 = .ok (.iload 5, 2) := by decide +kernel
theorem dX12_weight_174 : decode cX12_weight 174 = .ok (.invokevirtual 261, 3) := by decide +kernel
theorem dX12_weight_177 : decode cX12_weight 177 = .ok (.ifCond .eq 12, 3) := by decide +kernel
theorem dX12_weight_180 : decode cX12_weight 180 = .ok (.aload_n 0, 1) := by decide +kernel
theorem dX12_weight_181 : decode cX12_weight 181 = .ok (.iload 5, 2) := by decide +kernel
theorem dX12_weight_183 : decode cX12_weight 183 = .ok (.invokevirtual 317, 3) := by decide +kernel
theorem dX12_weight_186 : decode cX12_weight 186 = .ok (.goto 9, 3) := by decide +kernel
theorem dX12_weight_189 : decode cX12_weight 189 = .ok (.aload_n 0, 1) := by decide +kernel
theorem dX12_weight_190 : decode cX12_weight 190 = .ok (.iload 5, 2) := by decide +kernel
theorem dX12_weight_192 : decode cX12_weight 192 = .ok (.invokevirtual 320, 3) := by decide +kernel
theorem dX12_weight_195 : decode cX12_weight 195 = .ok (.iadd, 1) := by decide +kernel
theorem dX12_weight_196 : decode cX12_weight 196 = .ok (.istore_n 2, 1) := by decide +kernel
theorem dX12_weight_197 : decode cX12_weight 197 = .ok (.goto (-162), 3) := by decide +kernel
theorem dX12_weight_200 : decode cX12_weight 200 = .ok (.iload_n 2, 1) := by decide +kernel
theorem dX12_weight_201 : decode cX12_weight 201 = .ok (.ireturn, 1) := by decide +kernel
def L_X12_weight_35 (d : Nat) (v0 : Option Nm) (v2 : Int32) (h : MH) (u : Nat) (Q : Int32 → MH → Prop) : Prop := T u_X12_weight (d + 2) 35 [some (jR v0), none, some (jI v2), none, none, none, none] [] h u (qI Q)
def F_X12_weight (d : Nat) (v0 : Option Nm) (v1 : Int32) (h : MH) (u : Nat) (Q : Int32 → MH → Prop) : Prop :=
  rc h v0 11 ∧ F_X12_isValue d v0 v1 h 0 fun x1 h =>
  if x1 = 0 then
    Q (-1) h
  else
    rc h v0 11 ∧ F_X12_isConstant (d + 1) v0 v1 h 0 fun x2 h =>
    if x2 = 0 then
      pV h v0 11 35 (jI 0) fun h =>
      rc h v0 11 ∧ F_X12_recordWeight d v0 v1 h 0 fun x3 h =>
      L_X12_weight_35 d v0 x3 h u Q
    else
      rc h v0 11 ∧ F_X12_constantWeight d v0 v1 h 0 fun x4 h =>
      Q x4 h
set_option maxRecDepth 20000 in
theorem E_X12_weight {d : Nat} {v0 : Option Nm} {v1 : Int32} {h : MH} {u : Nat} {Q : Int32 → MH → Prop} (H : F_X12_weight d v0 v1 h u Q) : T u_X12_weight (d + 2) 0 [some (jR v0), some (jI v1), none, none, none, none, none] [] h u (qI Q) := by
  unfold F_X12_weight at H
  refine T_aload_n (pc := 0) dX12_weight_0 rfl rfl ?_
  refine T_iload_n (pc := 1) dX12_weight_1 rfl rfl ?_
  obtain ⟨H0, H⟩ := H
  refine T_iV (pc := 2) (ci := 11) (av := [jI v1]) (rest := []) (o := v0) dX12_weight_2 mf_X12_isValue c_5_155 c_5_157 pr_X12_isValue rfl rfl (Nat.le_of_ble_eq_true rfl) rfl H0 (iI_k (iI_m0 (fun x1 h H => ?_) (J_X12_isValue (d := d) H)))
  refine T_if_ne (pc := 5) (tgt := 10) dX12_weight_5 (by decide) (fun hc => ?_) (fun hc => ?_)
  · rw [if_neg hc] at H
    refine T_aload_n (pc := 10) dX12_weight_10 rfl rfl ?_
    refine T_iload_n (pc := 11) dX12_weight_11 rfl rfl ?_
    obtain ⟨H0, H⟩ := H
    refine T_iV (pc := 12) (ci := 11) (av := [jI v1]) (rest := []) (o := v0) dX12_weight_12 mf_X12_isConstant c_6_34 c_6_36 pr_X12_isConstant rfl rfl (Nat.le_of_ble_eq_true rfl) rfl H0 (iI_k (iI_m0 (fun x2 h H => ?_) (J_X12_isConstant (d := (d + 1)) H)))
    refine T_if_eq (pc := 15) (tgt := 24) dX12_weight_15 (by decide) (fun hc => ?_) (fun hc => ?_)
    · rw [if_pos hc] at H
      refine T_aload_n (pc := 24) dX12_weight_24 rfl rfl ?_
      refine T_iconst (pc := 25) (v := 0) dX12_weight_25 (by decide) ?_
      refine T_pV (pc := 26) fa_X12_271 dX12_weight_26 trivial (pV_mono (fun h H => ?_) H)
      refine T_aload_n (pc := 29) dX12_weight_29 rfl rfl ?_
      refine T_iload_n (pc := 30) dX12_weight_30 rfl rfl ?_
      obtain ⟨H0, H⟩ := H
      refine T_iV (pc := 31) (ci := 11) (av := [jI v1]) (rest := []) (o := v0) dX12_weight_31 mf_X12_recordWeight c_6_143 c_6_145 pr_X12_recordWeight rfl rfl (Nat.le_of_ble_eq_true rfl) rfl H0 (iI_k (iI_m0 (fun x3 h H => ?_) (J_X12_recordWeight (d := d) H)))
      refine T_istore_n (pc := 34) (ls2 := [some (jR v0), some (jI v1), some (jI x3), none, none, none, none]) dX12_weight_34 rfl (Nat.le_of_ble_eq_true rfl) rfl ?_
      exact T.forget H ⟨rfl, rfl, trivial⟩
    · rw [if_neg hc] at H
      refine T_aload_n (pc := 18) dX12_weight_18 rfl rfl ?_
      refine T_iload_n (pc := 19) dX12_weight_19 rfl rfl ?_
      obtain ⟨H0, H⟩ := H
      refine T_iV (pc := 20) (ci := 11) (av := [jI v1]) (rest := []) (o := v0) dX12_weight_20 mf_X12_constantWeight c_6_139 c_6_141 pr_X12_constantWeight rfl rfl (Nat.le_of_ble_eq_true rfl) rfl H0 (iI_k (iI_m0 (fun x4 h H => ?_) (J_X12_constantWeight (d := d) H)))
      exact T_ireturn (pc := 23) rfl rfl dX12_weight_23 H
  · rw [if_pos hc] at H
    refine T_iconst (pc := 8) (v := (-1)) dX12_weight_8 (by decide) ?_
    exact T_ireturn (pc := 9) rfl rfl dX12_weight_9 H
def F_X12_weight_35 (d : Nat) (v0 : Option Nm) (v2 : Int32) (h : MH) (u : Nat) (Q : Int32 → MH → Prop) : Prop :=
  gI h v0 11 35 fun x1 =>
  if x1 ≤ 0 then
    Q v2 h
  else
    gI h v0 11 35 fun x2 =>
    gR h v0 11 38 fun x3 =>
    aI .int h x3 (x2 - 1) fun x4 =>
    gR h v0 11 36 fun x5 =>
    aI .int h x5 (x2 - 1) fun x6 =>
    rc h v0 11 ∧ F_X12_partsOf d v0 x6 h 0 fun x7 h =>
    if x4 = x7 then
      gI h v0 11 35 fun x22 =>
      pV h v0 11 35 (jI (x22 - 1)) fun h =>
      L_X12_weight_35 d v0 v2 h u Q
    else
      gR h v0 11 38 fun x8 =>
      aI .int h x8 (x2 - 1) fun x9 =>
      sV .int h x8 (x2 - 1) (jI (x9 + 1)) fun h =>
      gR h v0 11 31 fun x10 =>
      gR h v0 11 36 fun x11 =>
      aI .int h x11 (x2 - 1) fun x12 =>
      aL h x10 ((6 * x12) + x4) fun x13 =>
      gR h v0 11 36 fun x14 =>
      aI .int h x14 (x2 - 1) fun x15 =>
      rc h v0 11 ∧ F_X12_laneOf d v0 x15 x4 h 0 fun x16 h =>
      if x16 = 9 then
        if 0 ≤ (x13.toInt32) then
          gR h v0 11 5 fun x20 =>
          aI .int h x20 (x13.toInt32) fun x21 =>
          L_X12_weight_35 d v0 (v2 + x21) h u Q
        else
          L_X12_weight_35 d v0 (v2 + 0) h u Q
      else
        if x16 = 8 then
          if (x13.toInt32) < 0 then
            L_X12_weight_35 d v0 v2 h u Q
          else
            rc h v0 11 ∧ F_X12_isConstant (d + 1) v0 (x13.toInt32) h 0 fun x17 h =>
            if x17 = 0 then
              rc h v0 11 ∧ F_X12_recordWeight d v0 (x13.toInt32) h 0 fun x18 h =>
              L_X12_weight_35 d v0 (v2 + x18) h u Q
            else
              rc h v0 11 ∧ F_X12_constantWeight d v0 (x13.toInt32) h 0 fun x19 h =>
              L_X12_weight_35 d v0 (v2 + x19) h u Q
        else
          L_X12_weight_35 d v0 v2 h u Q
set_option maxRecDepth 20000 in
theorem E_X12_weight_35 {d : Nat} {v0 : Option Nm} {v2 : Int32} {h : MH} {u : Nat} {Q : Int32 → MH → Prop} (H : F_X12_weight_35 d v0 v2 h u Q) : T u_X12_weight (d + 2) 35 [some (jR v0), none, some (jI v2), none, none, none, none] [] h u (qI Q) := by
  unfold F_X12_weight_35 at H
  refine T_aload_n (pc := 35) dX12_weight_35 rfl rfl ?_
  refine T_gI (pc := 36) fa_X12_271 dX12_weight_36 (gI_mono (fun x1 H => ?_) H)
  refine T_if_le (pc := 39) (tgt := 200) dX12_weight_39 (by decide) (fun hc => ?_) (fun hc => ?_)
  · rw [if_pos hc] at H
    refine T_iload_n (pc := 200) dX12_weight_200 rfl rfl ?_
    exact T_ireturn (pc := 201) rfl rfl dX12_weight_201 H
  · rw [if_neg hc] at H
    refine T_aload_n (pc := 42) dX12_weight_42 rfl rfl ?_
    refine T_gI (pc := 43) fa_X12_271 dX12_weight_43 (gI_mono (fun x2 H => ?_) H)
    refine T_iconst (pc := 46) (v := 1) dX12_weight_46 (by decide) ?_
    refine T_isub (pc := 47) dX12_weight_47 ?_
    refine T_istore_n (pc := 48) (ls2 := [some (jR v0), none, some (jI v2), some (jI (x2 - 1)), none, none, none]) dX12_weight_48 rfl (Nat.le_of_ble_eq_true rfl) rfl ?_
    refine T_aload_n (pc := 49) dX12_weight_49 rfl rfl ?_
    refine T_gR (pc := 50) fa_X12_96 dX12_weight_50 (gR_mono (fun x3 H => ?_) H)
    refine T_iload_n (pc := 53) dX12_weight_53 rfl rfl ?_
    refine T_aI (pc := 54) dX12_weight_54 (aI_mono (fun x4 H => ?_) H)
    refine T_istore (pc := 55) (ls2 := [some (jR v0), none, some (jI v2), some (jI (x2 - 1)), some (jI x4), none, none]) dX12_weight_55 (Nat.le_of_ble_eq_true rfl) rfl ?_
    refine T_iload (pc := 57) dX12_weight_57 rfl ?_
    refine T_aload_n (pc := 59) dX12_weight_59 rfl rfl ?_
    refine T_aload_n (pc := 60) dX12_weight_60 rfl rfl ?_
    refine T_gR (pc := 61) fa_X12_90 dX12_weight_61 (gR_mono (fun x5 H => ?_) H)
    refine T_iload_n (pc := 64) dX12_weight_64 rfl rfl ?_
    refine T_aI (pc := 65) dX12_weight_65 (aI_mono (fun x6 H => ?_) H)
    obtain ⟨H0, H⟩ := H
    refine T_iV (pc := 66) (ci := 11) (av := [jI x6]) (rest := [jI x4]) (o := v0) dX12_weight_66 mf_X12_partsOf c_6_38 c_6_40 pr_X12_partsOf rfl rfl (Nat.le_of_ble_eq_true rfl) rfl H0 (iI_k (iI_m0 (fun x7 h H => ?_) (J_X12_partsOf (d := d) H)))
    refine T_icmp_ne (pc := 69) (tgt := 85) dX12_weight_69 (by decide) (fun hc => ?_) (fun hc => ?_)
    · rw [if_neg hc] at H
      refine T_aload_n (pc := 85) dX12_weight_85 rfl rfl ?_
      refine T_gR (pc := 86) fa_X12_96 dX12_weight_86 (gR_mono (fun x8 H => ?_) H)
      refine T_iload_n (pc := 89) dX12_weight_89 rfl rfl ?_
      refine T_dup2 (pc := 90) rfl rfl dX12_weight_90 ?_
      refine T_aI (pc := 91) dX12_weight_91 (aI_mono (fun x9 H => ?_) H)
      refine T_iconst (pc := 92) (v := 1) dX12_weight_92 (by decide) ?_
      refine T_iadd (pc := 93) dX12_weight_93 ?_
      refine T_sI (pc := 94) dX12_weight_94 (sV_mono (fun h H => ?_) H)
      refine T_aload_n (pc := 95) dX12_weight_95 rfl rfl ?_
      refine T_gR (pc := 96) fa_X12_84 dX12_weight_96 (gR_mono (fun x10 H => ?_) H)
      refine T_bipush (pc := 99) (v := 6) dX12_weight_99 (by decide) ?_
      refine T_aload_n (pc := 101) dX12_weight_101 rfl rfl ?_
      refine T_gR (pc := 102) fa_X12_90 dX12_weight_102 (gR_mono (fun x11 H => ?_) H)
      refine T_iload_n (pc := 105) dX12_weight_105 rfl rfl ?_
      refine T_aI (pc := 106) dX12_weight_106 (aI_mono (fun x12 H => ?_) H)
      refine T_imul (pc := 107) dX12_weight_107 ?_
      refine T_iload (pc := 108) dX12_weight_108 rfl ?_
      refine T_iadd (pc := 110) dX12_weight_110 ?_
      refine T_aL (pc := 111) dX12_weight_111 (aL_mono (fun x13 H => ?_) H)
      refine T_l2i (pc := 112) dX12_weight_112 ?_
      refine T_istore (pc := 113) (ls2 := [some (jR v0), none, some (jI v2), some (jI (x2 - 1)), some (jI x4), some (jI (x13.toInt32)), none]) dX12_weight_113 (Nat.le_of_ble_eq_true rfl) rfl ?_
      refine T_aload_n (pc := 115) dX12_weight_115 rfl rfl ?_
      refine T_aload_n (pc := 116) dX12_weight_116 rfl rfl ?_
      refine T_gR (pc := 117) fa_X12_90 dX12_weight_117 (gR_mono (fun x14 H => ?_) H)
      refine T_iload_n (pc := 120) dX12_weight_120 rfl rfl ?_
      refine T_aI (pc := 121) dX12_weight_121 (aI_mono (fun x15 H => ?_) H)
      refine T_iload (pc := 122) dX12_weight_122 rfl ?_
      obtain ⟨H0, H⟩ := H
      refine T_iV (pc := 124) (ci := 11) (av := [jI x15, jI x4]) (rest := []) (o := v0) dX12_weight_124 mf_X12_laneOf c_6_50 c_6_52 pr_X12_laneOf rfl rfl (Nat.le_of_ble_eq_true rfl) rfl H0 (iI_k (iI_m0 (fun x16 h H => ?_) (J_X12_laneOf (d := d) H)))
      refine T_istore (pc := 127) (ls2 := [some (jR v0), none, some (jI v2), some (jI (x2 - 1)), some (jI x4), some (jI (x13.toInt32)), some (jI x16)]) dX12_weight_127 (Nat.le_of_ble_eq_true rfl) rfl ?_
      refine T_iload (pc := 129) dX12_weight_129 rfl ?_
      refine T_bipush (pc := 131) (v := 9) dX12_weight_131 (by decide) ?_
      refine T_icmp_ne (pc := 133) (tgt := 158) dX12_weight_133 (by decide) (fun hc => ?_) (fun hc => ?_)
      · rw [if_neg hc] at H
        refine T_iload (pc := 158) dX12_weight_158 rfl ?_
        refine T_bipush (pc := 160) (v := 8) dX12_weight_160 (by decide) ?_
        refine T_icmp_ne (pc := 162) (tgt := 197) dX12_weight_162 (by decide) (fun hc => ?_) (fun hc => ?_)
        · rw [if_neg hc] at H
          refine T_goto (pc := 197) (tgt := 35) dX12_weight_197 (by decide) ?_
          exact T.forget H ⟨rfl, rfl, trivial⟩
        · rw [if_pos hc] at H
          refine T_iload (pc := 165) dX12_weight_165 rfl ?_
          refine T_if_lt (pc := 167) (tgt := 197) dX12_weight_167 (by decide) (fun hc => ?_) (fun hc => ?_)
          · rw [if_pos hc] at H
            refine T_goto (pc := 197) (tgt := 35) dX12_weight_197 (by decide) ?_
            exact T.forget H ⟨rfl, rfl, trivial⟩
          · rw [if_neg hc] at H
            refine T_iload_n (pc := 170) dX12_weight_170 rfl rfl ?_
            refine T_aload_n (pc := 171) dX12_weight_171 rfl rfl ?_
            refine T_iload (pc := 172) dX12_weight_172 rfl ?_
            obtain ⟨H0, H⟩ := H
            refine T_iV (pc := 174) (ci := 11) (av := [jI (x13.toInt32)]) (rest := [jI v2]) (o := v0) dX12_weight_174 mf_X12_isConstant c_6_34 c_6_36 pr_X12_isConstant rfl rfl (Nat.le_of_ble_eq_true rfl) rfl H0 (iI_k (iI_m0 (fun x17 h H => ?_) (J_X12_isConstant (d := (d + 1)) H)))
            refine T_if_eq (pc := 177) (tgt := 189) dX12_weight_177 (by decide) (fun hc => ?_) (fun hc => ?_)
            · rw [if_pos hc] at H
              refine T_aload_n (pc := 189) dX12_weight_189 rfl rfl ?_
              refine T_iload (pc := 190) dX12_weight_190 rfl ?_
              obtain ⟨H0, H⟩ := H
              refine T_iV (pc := 192) (ci := 11) (av := [jI (x13.toInt32)]) (rest := [jI v2]) (o := v0) dX12_weight_192 mf_X12_recordWeight c_6_143 c_6_145 pr_X12_recordWeight rfl rfl (Nat.le_of_ble_eq_true rfl) rfl H0 (iI_k (iI_m0 (fun x18 h H => ?_) (J_X12_recordWeight (d := d) H)))
              refine T_iadd (pc := 195) dX12_weight_195 ?_
              refine T_istore_n (pc := 196) (ls2 := [some (jR v0), none, some (jI (v2 + x18)), some (jI (x2 - 1)), some (jI x4), some (jI (x13.toInt32)), some (jI x16)]) dX12_weight_196 rfl (Nat.le_of_ble_eq_true rfl) rfl ?_
              refine T_goto (pc := 197) (tgt := 35) dX12_weight_197 (by decide) ?_
              exact T.forget H ⟨rfl, rfl, trivial⟩
            · rw [if_neg hc] at H
              refine T_aload_n (pc := 180) dX12_weight_180 rfl rfl ?_
              refine T_iload (pc := 181) dX12_weight_181 rfl ?_
              obtain ⟨H0, H⟩ := H
              refine T_iV (pc := 183) (ci := 11) (av := [jI (x13.toInt32)]) (rest := [jI v2]) (o := v0) dX12_weight_183 mf_X12_constantWeight c_6_139 c_6_141 pr_X12_constantWeight rfl rfl (Nat.le_of_ble_eq_true rfl) rfl H0 (iI_k (iI_m0 (fun x19 h H => ?_) (J_X12_constantWeight (d := d) H)))
              refine T_goto (pc := 186) (tgt := 195) dX12_weight_186 (by decide) ?_
              refine T_iadd (pc := 195) dX12_weight_195 ?_
              refine T_istore_n (pc := 196) (ls2 := [some (jR v0), none, some (jI (v2 + x19)), some (jI (x2 - 1)), some (jI x4), some (jI (x13.toInt32)), some (jI x16)]) dX12_weight_196 rfl (Nat.le_of_ble_eq_true rfl) rfl ?_
              refine T_goto (pc := 197) (tgt := 35) dX12_weight_197 (by decide) ?_
              exact T.forget H ⟨rfl, rfl, trivial⟩
      · rw [if_pos hc] at H
        refine T_iload_n (pc := 136) dX12_weight_136 rfl rfl ?_
        refine T_iload (pc := 137) dX12_weight_137 rfl ?_
        refine T_if_ge (pc := 139) (tgt := 146) dX12_weight_139 (by decide) (fun hc => ?_) (fun hc => ?_)
        · rw [if_pos hc] at H
          refine T_aload_n (pc := 146) dX12_weight_146 rfl rfl ?_
          refine T_gR (pc := 147) fa_X12_13 dX12_weight_147 (gR_mono (fun x20 H => ?_) H)
          refine T_iload (pc := 150) dX12_weight_150 rfl ?_
          refine T_aI (pc := 152) dX12_weight_152 (aI_mono (fun x21 H => ?_) H)
          refine T_iadd (pc := 153) dX12_weight_153 ?_
          refine T_istore_n (pc := 154) (ls2 := [some (jR v0), none, some (jI (v2 + x21)), some (jI (x2 - 1)), some (jI x4), some (jI (x13.toInt32)), some (jI x16)]) dX12_weight_154 rfl (Nat.le_of_ble_eq_true rfl) rfl ?_
          refine T_goto (pc := 155) (tgt := 197) dX12_weight_155 (by decide) ?_
          refine T_goto (pc := 197) (tgt := 35) dX12_weight_197 (by decide) ?_
          exact T.forget H ⟨rfl, rfl, trivial⟩
        · rw [if_neg hc] at H
          refine T_iconst (pc := 142) (v := 0) dX12_weight_142 (by decide) ?_
          refine T_goto (pc := 143) (tgt := 153) dX12_weight_143 (by decide) ?_
          refine T_iadd (pc := 153) dX12_weight_153 ?_
          refine T_istore_n (pc := 154) (ls2 := [some (jR v0), none, some (jI (v2 + 0)), some (jI (x2 - 1)), some (jI x4), some (jI (x13.toInt32)), some (jI x16)]) dX12_weight_154 rfl (Nat.le_of_ble_eq_true rfl) rfl ?_
          refine T_goto (pc := 155) (tgt := 197) dX12_weight_155 (by decide) ?_
          refine T_goto (pc := 197) (tgt := 35) dX12_weight_197 (by decide) ?_
          exact T.forget H ⟨rfl, rfl, trivial⟩
    · rw [if_pos hc] at H
      refine T_aload_n (pc := 72) dX12_weight_72 rfl rfl ?_
      refine T_dup (pc := 73) rfl dX12_weight_73 ?_
      refine T_gI (pc := 74) fa_X12_271 dX12_weight_74 (gI_mono (fun x22 H => ?_) H)
      refine T_iconst (pc := 77) (v := 1) dX12_weight_77 (by decide) ?_
      refine T_isub (pc := 78) dX12_weight_78 ?_
      refine T_pV (pc := 79) fa_X12_271 dX12_weight_79 trivial (pV_mono (fun h H => ?_) H)
      refine T_goto (pc := 82) (tgt := 35) dX12_weight_82 (by decide) ?_
      exact T.forget H ⟨rfl, rfl, trivial⟩
theorem I_X12_weight {d : Nat} {v0 : Option Nm} {v1 : Int32} {h : MH} {u : Nat} {K : Int32 → MH → Nat → Prop} (u1 : Nat) (hu : u1 ≤ u) (H : F_X12_weight d v0 v1 h u1 (fun x h2 => K x h2 (u - u1))) : iI (d + 2) u_X12_weight [jR v0, jI v1] h u K := inv.of u1 hu (Ct.of (by decide +kernel) rfl (Nat.le_of_ble_eq_true rfl) rfl (E_X12_weight H))
theorem J_X12_weight {d : Nat} {v0 : Option Nm} {v1 : Int32} {h : MH} {u : Nat} {K : Int32 → MH → Prop} (H : F_X12_weight d v0 v1 h 0 K) : iI (d + 2) u_X12_weight [jR v0, jI v1] h u (fun x h2 u2 => K x h2 ∧ u2 = u) := jiI (by decide +kernel) rfl (Nat.le_of_ble_eq_true rfl) rfl (E_X12_weight H)
