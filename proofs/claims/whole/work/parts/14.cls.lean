theorem dX11_hash_0 : decode cX11_hash 0 = .ok (.aload_n 0, 1) := by decide +kernel
theorem dX11_hash_1 : decode cX11_hash 1 = .ok (.getfield 12, 3) := by decide +kernel
theorem dX11_hash_4 : decode cX11_hash 4 = .ok (.iload_n 1, 1) := by decide +kernel
theorem dX11_hash_5 : decode cX11_hash 5 = .ok (.i2l, 1) := by decide +kernel
theorem dX11_hash_6 : decode cX11_hash 6 = .ok (.invokevirtual 118, 3) := by decide +kernel
theorem dX11_hash_9 : decode cX11_hash 9 = .ok (.astore_n 2, 1) := by decide +kernel
theorem dX11_hash_10 : decode cX11_hash 10 = .ok (.aload_n 2, 1) := by decide +kernel
theorem dX11_hash_11 : decode cX11_hash 11 = .ok (.ifnonnull 9, 3) := by decide +kernel
theorem dX11_hash_14 : decode cX11_hash 14 = .ok (.ldc2_w 112, 3) := by decide +kernel
theorem dX11_hash_17 : decode cX11_hash 17 = .ok (.goto 12, 3) := by decide +kernel
theorem dX11_hash_20 : decode cX11_hash 20 = .ok (.aload_n 0, 1) := by decide +kernel
theorem dX11_hash_21 : decode cX11_hash 21 = .ok (.getfield 37, 3) := by decide +kernel
theorem dX11_hash_24 : decode cX11_hash 24 = .ok (.aload_n 2, 1) := by decide +kernel
theorem dX11_hash_25 : decode cX11_hash 25 = .ok (.invokevirtual 296, 3) := by decide +kernel
theorem dX11_hash_28 : decode cX11_hash 28 = .ok (.i2l, 1) := by decide +kernel
theorem dX11_hash_29 : decode cX11_hash 29 = .ok (.lreturn, 1) := by decide +kernel
def F_X11_hash (d : Nat) (v0 : Option Nm) (v1 : Int32) (h : MH) (u : Nat) (Q : Int64 → MH → Prop) : Prop :=
  gR h v0 10 0 fun x1 =>
  rc h x1 6 ∧ F_X7_findValue d x1 (v1.toInt64) h 0 fun x2 h =>
  nl x2 (
    Q (-9223372036854775808) h) (
    gR h v0 10 3 fun x3 =>
    rc h x3 0 ∧ iI d u_X0_hashValue [jR x3, jR x2] h u fun x4 h u =>
    Q (x4.toInt64) h)
set_option maxRecDepth 20000 in
theorem E_X11_hash {d : Nat} {v0 : Option Nm} {v1 : Int32} {h : MH} {u : Nat} {Q : Int64 → MH → Prop} (H : F_X11_hash d v0 v1 h u Q) : T u_X11_hash (d + 1) 0 [some (jR v0), some (jI v1), none] [] h u (qL Q) := by
  unfold F_X11_hash at H
  refine T_aload_n (pc := 0) dX11_hash_0 rfl rfl ?_
  refine T_gR (pc := 1) fa_X11_12 dX11_hash_1 (gR_mono (fun x1 H => ?_) H)
  refine T_iload_n (pc := 4) dX11_hash_4 rfl rfl ?_
  refine T_i2l (pc := 5) dX11_hash_5 ?_
  obtain ⟨H0, H⟩ := H
  refine T_iV (pc := 6) (ci := 6) (av := [jL (v1.toInt64)]) (rest := []) (o := x1) dX11_hash_6 mf_X7_findValue c_2_63 c_2_64 c_2_65 rfl rfl (Nat.le_of_ble_eq_true rfl) rfl H0 (iR_k (iR_m0 (fun x2 h H => ?_) (J_X7_findValue (d := d) H)))
  refine T_astore_n (pc := 9) (ls2 := [some (jR v0), some (jI v1), some (jR x2)]) dX11_hash_9 rfl (Nat.le_of_ble_eq_true rfl) rfl ?_
  refine T_aload_n (pc := 10) dX11_hash_10 rfl rfl ?_
  refine T_ifnonnull (pc := 11) (tgt := 20) dX11_hash_11 (by decide) (fun ho => ?_) (fun n ho => ?_)
  · replace H := nl_n ho H
    refine T_ldc2 (pc := 14) (v := (-9223372036854775808)) dX11_hash_14 c_2_54 ?_
    refine T_goto (pc := 17) (tgt := 29) dX11_hash_17 (by decide) ?_
    exact T_lreturn (pc := 29) rfl dX11_hash_29 H
  · replace H := nl_s ho H
    refine T_aload_n (pc := 20) dX11_hash_20 rfl rfl ?_
    refine T_gR (pc := 21) fa_X11_37 dX11_hash_21 (gR_mono (fun x3 H => ?_) H)
    refine T_aload_n (pc := 24) dX11_hash_24 rfl rfl ?_
    obtain ⟨H0, H⟩ := H
    refine T_iV (pc := 25) (ci := 0) (av := [jR x2]) (rest := []) (o := x3) dX11_hash_25 mf_X0_hashValue c_4_61 c_4_62 c_4_63 rfl rfl (Nat.le_of_ble_eq_true rfl) rfl H0 (iI_k (iI_mono (fun x4 h u H => ?_) H))
    refine T_i2l (pc := 28) dX11_hash_28 ?_
    exact T_lreturn (pc := 29) rfl dX11_hash_29 H
theorem I_X11_hash {d : Nat} {v0 : Option Nm} {v1 : Int32} {h : MH} {u : Nat} {K : Int64 → MH → Nat → Prop} (u1 : Nat) (hu : u1 ≤ u) (H : F_X11_hash d v0 v1 h u1 (fun x h2 => K x h2 (u - u1))) : iL (d + 1) u_X11_hash [jR v0, jI v1] h u K := inv.of u1 hu (Ct.of (by decide +kernel) rfl (Nat.le_of_ble_eq_true rfl) rfl (E_X11_hash H))
theorem J_X11_hash {d : Nat} {v0 : Option Nm} {v1 : Int32} {h : MH} {u : Nat} {K : Int64 → MH → Prop} (H : F_X11_hash d v0 v1 h 0 K) : iL (d + 1) u_X11_hash [jR v0, jI v1] h u (fun x h2 u2 => K x h2 ∧ u2 = u) := jiL (by decide +kernel) rfl (Nat.le_of_ble_eq_true rfl) rfl (E_X11_hash H)
theorem dX11_info_0 : decode cX11_info 0 = .ok (.aload_n 0, 1) := by decide +kernel
theorem dX11_info_1 : decode cX11_info 1 = .ok (.iload_n 1, 1) := by decide +kernel
theorem dX11_info_2 : decode cX11_info 2 = .ok (.invokevirtual 155, 3) := by decide +kernel
theorem dX11_info_5 : decode cX11_info 5 = .ok (.astore_n 3, 1) := by decide +kernel
theorem dX11_info_6 : decode cX11_info 6 = .ok (.aload_n 3, 1) := by decide +kernel
theorem dX11_info_7 : decode cX11_info 7 = .ok (.ifnonnull 5, 3) := by decide +kernel
theorem dX11_info_10 : decode cX11_info 10 = .ok (.iconst (-1), 1) := by decide +kernel
theorem dX11_info_11 : decode cX11_info 11 = .ok (.ireturn, 1) := by decide +kernel
theorem dX11_info_12 : decode cX11_info 12 = .ok (.iload_n 2, 1) := by decide +kernel
theorem dX11_info_13 : decode cX11_info 13 = .ok (.tableswitch 72 0 4 #[35, 43, 51, 59, 67], 35) := by decide +kernel
theorem dX11_info_48 : decode cX11_info 48 = .ok (.aload_n 3, 1) := by decide +kernel
theorem dX11_info_49 : decode cX11_info 49 = .ok (.getfield 192, 3) := by decide +kernel
theorem dX11_info_52 : decode cX11_info 52 = .ok (.invokestatic 133, 3) := by decide +kernel
theorem dX11_info_55 : decode cX11_info 55 = .ok (.ireturn, 1) := by decide +kernel
theorem dX11_info_56 : decode cX11_info 56 = .ok (.aload_n 3, 1) := by decide +kernel
theorem dX11_info_57 : decode cX11_info 57 = .ok (.invokevirtual 165, 3) := by decide +kernel
theorem dX11_info_60 : decode cX11_info 60 = .ok (.getfield 185, 3) := by decide +kernel
theorem dX11_info_63 : decode cX11_info 63 = .ok (.ireturn, 1) := by decide +kernel
theorem dX11_info_64 : decode cX11_info 64 = .ok (.aload_n 3, 1) := by decide +kernel
theorem dX11_info_65 : decode cX11_info 65 = .ok (.invokevirtual 165, 3) := by decide +kernel
theorem dX11_info_68 : decode cX11_info 68 = .ok (.getfield 210, 3) := by decide +kernel
theorem dX11_info_71 : decode cX11_info 71 = .ok (.ireturn, 1) := by decide +kernel
theorem dX11_info_72 : decode cX11_info 72 = .ok (.aload_n 3, 1) := by decide +kernel
theorem dX11_info_73 : decode cX11_info 73 = .ok (.getfield 169, 3) := by decide +kernel
theorem dX11_info_76 : decode cX11_info 76 = .ok (.invokestatic 133, 3) := by decide +kernel
theorem dX11_info_79 : decode cX11_info 79 = .ok (.ireturn, 1) := by decide +kernel
theorem dX11_info_80 : decode cX11_info 80 = .ok (.aload_n 3, 1) := by decide +kernel
theorem dX11_info_81 : decode cX11_info 81 = .ok (.getfield 217, 3) := by decide +kernel
theorem dX11_info_84 : decode cX11_info 84 = .ok (.ireturn, 1) := by decide +kernel
theorem dX11_info_85 : decode cX11_info 85 = .ok (.bipush (-2), 2) := by decide +kernel
theorem dX11_info_87 : decode cX11_info 87 = .ok (.ireturn, 1) := by decide +kernel
def F_X11_info (d : Nat) (v0 : Option Nm) (v1 : Int32) (v2 : Int32) (h : MH) (u : Nat) (Q : Int32 → MH → Prop) : Prop :=
  rc h v0 10 ∧ F_X11_findKind d v0 v1 h 0 fun x1 h =>
  nl x1 (
    Q (-1) h) (
    if v2 = 0 then
      gI h x1 3 1 fun x2 =>
      F_X11_oneIf (d + 1) x2 h 0 fun x3 h =>
      Q x3 h
    else if v2 = 1 then
      rc h x1 3 ∧ F_X3_newest (d + 1) x1 h 0 fun x4 h =>
      gI h x4 2 4 fun x5 =>
      Q x5 h
    else if v2 = 2 then
      rc h x1 3 ∧ F_X3_newest (d + 1) x1 h 0 fun x6 h =>
      gI h x6 2 0 fun x7 =>
      Q x7 h
    else if v2 = 3 then
      gI h x1 3 5 fun x8 =>
      F_X11_oneIf (d + 1) x8 h 0 fun x9 h =>
      Q x9 h
    else if v2 = 4 then
      gI h x1 3 6 fun x10 =>
      Q x10 h
    else 
      Q (-2) h)
set_option maxRecDepth 20000 in
theorem E_X11_info {d : Nat} {v0 : Option Nm} {v1 : Int32} {v2 : Int32} {h : MH} {u : Nat} {Q : Int32 → MH → Prop} (H : F_X11_info d v0 v1 v2 h u Q) : T u_X11_info (d + 2) 0 [some (jR v0), some (jI v1), some (jI v2), none] [] h u (qI Q) := by
  unfold F_X11_info at H
  refine T_aload_n (pc := 0) dX11_info_0 rfl rfl ?_
  refine T_iload_n (pc := 1) dX11_info_1 rfl rfl ?_
  obtain ⟨H0, H⟩ := H
  refine T_iV (pc := 2) (ci := 10) (av := [jI v1]) (rest := []) (o := v0) dX11_info_2 mf_X11_findKind c_2_199 c_2_201 pr_X11_findKind rfl rfl (Nat.le_of_ble_eq_true rfl) rfl H0 (iR_k (iR_m0 (fun x1 h H => ?_) (J_X11_findKind (d := d) H)))
  refine T_astore_n (pc := 5) (ls2 := [some (jR v0), some (jI v1), some (jI v2), some (jR x1)]) dX11_info_5 rfl (Nat.le_of_ble_eq_true rfl) rfl ?_
  refine T_aload_n (pc := 6) dX11_info_6 rfl rfl ?_
  refine T_ifnonnull (pc := 7) (tgt := 12) dX11_info_7 (by decide) (fun ho => ?_) (fun n ho => ?_)
  · replace H := nl_n ho H
    refine T_iconst (pc := 10) (v := (-1)) dX11_info_10 (by decide) ?_
    exact T_ireturn (pc := 11) rfl rfl dX11_info_11 H
  · replace H := nl_s ho H
    refine T_iload_n (pc := 12) dX11_info_12 rfl rfl ?_
    by_cases h0 : v2 = 0
    · rw [if_pos h0] at H
      refine T_tableIn (pc := 13) (off := 35) (tgt := 48) dX11_info_13 (by rw [h0]; decide) (by rw [h0]; decide) (by rw [h0]; rfl) (by decide) ?_
      refine T_aload_n (pc := 48) dX11_info_48 rfl rfl ?_
      refine T_gI (pc := 49) fa_X11_192 dX11_info_49 (gI_mono (fun x2 H => ?_) H)
      refine T_invS (pc := 52) (av := [jI x2]) (rest := []) dX11_info_52 mf_X11_oneIf c_2_83 c_2_84 rfl (Nat.le_of_ble_eq_true rfl) rfl (iI_k (iI_m0 (fun x3 h H => ?_) (J_X11_oneIf (d := (d + 1)) H)))
      exact T_ireturn (pc := 55) rfl rfl dX11_info_55 H
    rw [if_neg h0] at H
    by_cases h1 : v2 = 1
    · rw [if_pos h1] at H
      refine T_tableIn (pc := 13) (off := 43) (tgt := 56) dX11_info_13 (by rw [h1]; decide) (by rw [h1]; decide) (by rw [h1]; rfl) (by decide) ?_
      refine T_aload_n (pc := 56) dX11_info_56 rfl rfl ?_
      obtain ⟨H0, H⟩ := H
      refine T_iV (pc := 57) (ci := 3) (av := []) (rest := []) (o := x1) dX11_info_57 mf_X3_newest c_2_213 c_2_214 c_2_215 rfl rfl (Nat.le_of_ble_eq_true rfl) rfl H0 (iR_k (iR_m0 (fun x4 h H => ?_) (J_X3_newest (d := (d + 1)) H)))
      refine T_gI (pc := 60) fa_X11_185 dX11_info_60 (gI_mono (fun x5 H => ?_) H)
      exact T_ireturn (pc := 63) rfl rfl dX11_info_63 H
    rw [if_neg h1] at H
    by_cases h2 : v2 = 2
    · rw [if_pos h2] at H
      refine T_tableIn (pc := 13) (off := 51) (tgt := 64) dX11_info_13 (by rw [h2]; decide) (by rw [h2]; decide) (by rw [h2]; rfl) (by decide) ?_
      refine T_aload_n (pc := 64) dX11_info_64 rfl rfl ?_
      obtain ⟨H0, H⟩ := H
      refine T_iV (pc := 65) (ci := 3) (av := []) (rest := []) (o := x1) dX11_info_65 mf_X3_newest c_2_213 c_2_214 c_2_215 rfl rfl (Nat.le_of_ble_eq_true rfl) rfl H0 (iR_k (iR_m0 (fun x6 h H => ?_) (J_X3_newest (d := (d + 1)) H)))
      refine T_gI (pc := 68) fa_X11_210 dX11_info_68 (gI_mono (fun x7 H => ?_) H)
      exact T_ireturn (pc := 71) rfl rfl dX11_info_71 H
    rw [if_neg h2] at H
    by_cases h3 : v2 = 3
    · rw [if_pos h3] at H
      refine T_tableIn (pc := 13) (off := 59) (tgt := 72) dX11_info_13 (by rw [h3]; decide) (by rw [h3]; decide) (by rw [h3]; rfl) (by decide) ?_
      refine T_aload_n (pc := 72) dX11_info_72 rfl rfl ?_
      refine T_gI (pc := 73) fa_X11_169 dX11_info_73 (gI_mono (fun x8 H => ?_) H)
      refine T_invS (pc := 76) (av := [jI x8]) (rest := []) dX11_info_76 mf_X11_oneIf c_2_83 c_2_84 rfl (Nat.le_of_ble_eq_true rfl) rfl (iI_k (iI_m0 (fun x9 h H => ?_) (J_X11_oneIf (d := (d + 1)) H)))
      exact T_ireturn (pc := 79) rfl rfl dX11_info_79 H
    rw [if_neg h3] at H
    by_cases h4 : v2 = 4
    · rw [if_pos h4] at H
      refine T_tableIn (pc := 13) (off := 67) (tgt := 80) dX11_info_13 (by rw [h4]; decide) (by rw [h4]; decide) (by rw [h4]; rfl) (by decide) ?_
      refine T_aload_n (pc := 80) dX11_info_80 rfl rfl ?_
      refine T_gI (pc := 81) fa_X11_217 dX11_info_81 (gI_mono (fun x10 H => ?_) H)
      exact T_ireturn (pc := 84) rfl rfl dX11_info_84 H
    rw [if_neg h4] at H
    have e0 : (v2 : Int32).toInt ≠ 0 := fun q => h0 (Int32.toInt_inj.mp (q.trans (by decide)))
    have e1 : (v2 : Int32).toInt ≠ 1 := fun q => h1 (Int32.toInt_inj.mp (q.trans (by decide)))
    have e2 : (v2 : Int32).toInt ≠ 2 := fun q => h2 (Int32.toInt_inj.mp (q.trans (by decide)))
    have e3 : (v2 : Int32).toInt ≠ 3 := fun q => h3 (Int32.toInt_inj.mp (q.trans (by decide)))
    have e4 : (v2 : Int32).toInt ≠ 4 := fun q => h4 (Int32.toInt_inj.mp (q.trans (by decide)))
    refine T_tableOut (pc := 13) (tgt := 85) dX11_info_13 (by omega) (by decide) ?_
    refine T_bipush (pc := 85) (v := (-2)) dX11_info_85 (by decide) ?_
    exact T_ireturn (pc := 87) rfl rfl dX11_info_87 H
theorem I_X11_info {d : Nat} {v0 : Option Nm} {v1 : Int32} {v2 : Int32} {h : MH} {u : Nat} {K : Int32 → MH → Nat → Prop} (u1 : Nat) (hu : u1 ≤ u) (H : F_X11_info d v0 v1 v2 h u1 (fun x h2 => K x h2 (u - u1))) : iI (d + 2) u_X11_info [jR v0, jI v1, jI v2] h u K := inv.of u1 hu (Ct.of (by decide +kernel) rfl (Nat.le_of_ble_eq_true rfl) rfl (E_X11_info H))
theorem J_X11_info {d : Nat} {v0 : Option Nm} {v1 : Int32} {v2 : Int32} {h : MH} {u : Nat} {K : Int32 → MH → Prop} (H : F_X11_info d v0 v1 v2 h 0 K) : iI (d + 2) u_X11_info [jR v0, jI v1, jI v2] h u (fun x h2 u2 => K x h2 ∧ u2 = u) := jiI (by decide +kernel) rfl (Nat.le_of_ble_eq_true rfl) rfl (E_X11_info H)
theorem dX11_init_0 : decode cX11_init 0 = .ok (.aload_n 0, 1) := by decide +kernel
theorem dX11_init_1 : decode cX11_init 1 = .ok (.invokespecial 3, 3) := by decide +kernel
theorem dX11_init_4 : decode cX11_init 4 = .ok (.aload_n 0, 1) := by decide +kernel
theorem dX11_init_5 : decode cX11_init 5 = .ok (.new 9, 3) := by decide +kernel
theorem dX11_init_8 : decode cX11_init 8 = .ok (.dup, 1) := by decide +kernel
theorem dX11_init_9 : decode cX11_init 9 = .ok (.invokespecial 11, 3) := by decide +kernel
theorem dX11_init_12 : decode cX11_init 12 = .ok (.putfield 12, 3) := by decide +kernel
theorem dX11_init_15 : decode cX11_init 15 = .ok (.aload_n 0, 1) := by decide +kernel
theorem dX11_init_16 : decode cX11_init 16 = .ok (.new 18, 3) := by decide +kernel
theorem dX11_init_19 : decode cX11_init 19 = .ok (.dup, 1) := by decide +kernel
theorem dX11_init_20 : decode cX11_init 20 = .ok (.invokespecial 20, 3) := by decide +kernel
theorem dX11_init_23 : decode cX11_init 23 = .ok (.putfield 21, 3) := by decide +kernel
theorem dX11_init_26 : decode cX11_init 26 = .ok (.aload_n 0, 1) := by decide +kernel
theorem dX11_init_27 : decode cX11_init 27 = .ok (.new 25, 3) := by decide +kernel
theorem dX11_init_30 : decode cX11_init 30 = .ok (.dup, 1) := by decide +kernel
theorem dX11_init_31 : decode cX11_init 31 = .ok (.aload_n 0, 1) := by decide +kernel
theorem dX11_init_32 : decode cX11_init 32 = .ok (.getfield 12, 3) := by decide +kernel
theorem dX11_init_35 : decode cX11_init 35 = .ok (.invokespecial 27, 3) := by decide +kernel
theorem dX11_init_38 : decode cX11_init 38 = .ok (.putfield 30, 3) := by decide +kernel
theorem dX11_init_41 : decode cX11_init 41 = .ok (.aload_n 0, 1) := by decide +kernel
theorem dX11_init_42 : decode cX11_init 42 = .ok (.new 34, 3) := by decide +kernel
theorem dX11_init_45 : decode cX11_init 45 = .ok (.dup, 1) := by decide +kernel
theorem dX11_init_46 : decode cX11_init 46 = .ok (.aload_n 0, 1) := by decide +kernel
theorem dX11_init_47 : decode cX11_init 47 = .ok (.getfield 12, 3) := by decide +kernel
theorem dX11_init_50 : decode cX11_init 50 = .ok (.invokespecial 36, 3) := by decide +kernel
theorem dX11_init_53 : decode cX11_init 53 = .ok (.putfield 37, 3) := by decide +kernel
theorem dX11_init_56 : decode cX11_init 56 = .ok (.aload_n 0, 1) := by decide +kernel
theorem dX11_init_57 : decode cX11_init 57 = .ok (.new 41, 3) := by decide +kernel
theorem dX11_init_60 : decode cX11_init 60 = .ok (.dup, 1) := by decide +kernel
theorem dX11_init_61 : decode cX11_init 61 = .ok (.aload_n 0, 1) := by decide +kernel
theorem dX11_init_62 : decode cX11_init 62 = .ok (.getfield 12, 3) := by decide +kernel
theorem dX11_init_65 : decode cX11_init 65 = .ok (.invokespecial 43, 3) := by decide +kernel
theorem dX11_init_68 : decode cX11_init 68 = .ok (.putfield 44, 3) := by decide +kernel
theorem dX11_init_71 : decode cX11_init 71 = .ok (.aload_n 0, 1) := by decide +kernel
theorem dX11_init_72 : decode cX11_init 72 = .ok (.bipush 16, 2) := by decide +kernel
theorem dX11_init_74 : decode cX11_init 74 = .ok (.anewarray 48, 3) := by decide +kernel
theorem dX11_init_77 : decode cX11_init 77 = .ok (.putfield 50, 3) := by decide +kernel
theorem dX11_init_80 : decode cX11_init 80 = .ok (.aload_n 0, 1) := by decide +kernel
theorem dX11_init_81 : decode cX11_init 81 = .ok (.bipush 8, 2) := by decide +kernel
theorem dX11_init_83 : decode cX11_init 83 = .ok (.newarray .int, 2) := by decide +kernel
theorem dX11_init_85 : decode cX11_init 85 = .ok (.putfield 54, 3) := by decide +kernel
theorem dX11_init_88 : decode cX11_init 88 = .ok (.aload_n 0, 1) := by decide +kernel
theorem dX11_init_89 : decode cX11_init 89 = .ok (.bipush 8, 2) := by decide +kernel
theorem dX11_init_91 : decode cX11_init 91 = .ok (.newarray .boolean, 2) := by decide +kernel
theorem dX11_init_93 : decode cX11_init 93 = .ok (.putfield 58, 3) := by decide +kernel
theorem dX11_init_96 : decode cX11_init 96 = .ok (.return_, 1) := by decide +kernel
def F_X11_init (d : Nat) (v0 : Option Nm) (h : MH) (u : Nat) (Q : MH → Prop) : Prop :=
  nn v0 <|
  nO h u 6 [jR none, jR none, jI 0, jI 0] fun x1 h u =>
  iV (d + 1) u_X7_init [jR (some x1)] h u fun h u =>
  pV h v0 10 0 (jR (some x1)) fun h =>
  nO h u 8 [jR none, jR none] fun x3 h u =>
  iV (d + 1) u_X9_init [jR (some x3)] h u fun h u =>
  pV h v0 10 1 (jR (some x3)) fun h =>
  nO h u 1 [jR none, jR none, jI 0, jI 0] fun x5 h u =>
  gR h v0 10 0 fun x6 =>
  iV (d + 1) u_X1_init [jR (some x5), jR x6] h u fun h u =>
  pV h v0 10 2 (jR (some x5)) fun h =>
  nO h u 0 [jR none] fun x8 h u =>
  gR h v0 10 0 fun x9 =>
  F_X0_init d (some x8) x9 h 0 fun h =>
  pV h v0 10 3 (jR (some x8)) fun h =>
  nO h u 5 [jR none, jR none, jR none] fun x11 h u =>
  gR h v0 10 0 fun x12 =>
  iV (d + 1) u_X6_init [jR (some x11), jR x12] h u fun h u =>
  pV h v0 10 4 (jR (some x11)) fun h =>
  nA (.object "RecordBridge$Kind") h u 16 fun x14 h u =>
  pV h v0 10 5 (jR (some x14)) fun h =>
  nA .int h u 8 fun x15 h u =>
  pV h v0 10 6 (jR (some x15)) fun h =>
  nA .boolean h u 8 fun x16 h u =>
  pV h v0 10 7 (jR (some x16)) fun h =>
  Q h
set_option maxRecDepth 20000 in
theorem E_X11_init {d : Nat} {v0 : Option Nm} {h : MH} {u : Nat} {Q : MH → Prop} (H : F_X11_init d v0 h u Q) : T u_X11_init (d + 2) 0 [some (jR v0)] [] h u (qV Q) := by
  unfold F_X11_init at H
  refine T_aload_n (pc := 0) dX11_init_0 rfl rfl ?_
  obtain ⟨n0, H0, H⟩ := nn_out H
  refine T_objInit (pc := 1) dX11_init_1 c_1_24 c_1_25 c_1_26 H0 (Nat.le_of_ble_eq_true rfl) ?_
  refine T_aload_n (pc := 4) dX11_init_4 rfl rfl ?_
  refine T_nO (pc := 5) nf_X11_9 dX11_init_5 (nO_mono (fun x1 h u H => ?_) H)
  refine T_dup (pc := 8) rfl dX11_init_8 ?_
  refine T_invI (pc := 9) (av := []) (rest := [jR (some x1), jR v0]) dX11_init_9 mf_X7_init rfl rfl c_1_29 c_1_30 rfl (Nat.le_of_ble_eq_true rfl) rfl (iV_k (iV_mono (fun h u H => ?_) H))
  refine T_pVF (pc := 12) fa_X11_12 rfl rfl dX11_init_12 trivial (pV_mono (fun h H => ?_) H)
  refine T_aload_n (pc := 15) dX11_init_15 rfl rfl ?_
  refine T_nO (pc := 16) nf_X11_18 dX11_init_16 (nO_mono (fun x3 h u H => ?_) H)
  refine T_dup (pc := 19) rfl dX11_init_19 ?_
  refine T_invI (pc := 20) (av := []) (rest := [jR (some x3), jR v0]) dX11_init_20 mf_X9_init rfl rfl c_1_54 c_1_55 rfl (Nat.le_of_ble_eq_true rfl) rfl (iV_k (iV_mono (fun h u H => ?_) H))
  refine T_pVF (pc := 23) fa_X11_21 rfl rfl dX11_init_23 trivial (pV_mono (fun h H => ?_) H)
  refine T_aload_n (pc := 26) dX11_init_26 rfl rfl ?_
  refine T_nO (pc := 27) nf_X11_25 dX11_init_27 (nO_mono (fun x5 h u H => ?_) H)
  refine T_dup (pc := 30) rfl dX11_init_30 ?_
  refine T_aload_n (pc := 31) dX11_init_31 rfl rfl ?_
  refine T_gR (pc := 32) fa_X11_12 dX11_init_32 (gR_mono (fun x6 H => ?_) H)
  refine T_invI (pc := 35) (av := [jR x6]) (rest := [jR (some x5), jR v0]) dX11_init_35 mf_X1_init rfl rfl c_1_69 c_1_70 rfl (Nat.le_of_ble_eq_true rfl) rfl (iV_k (iV_mono (fun h u H => ?_) H))
  refine T_pVF (pc := 38) fa_X11_30 rfl rfl dX11_init_38 trivial (pV_mono (fun h H => ?_) H)
  refine T_aload_n (pc := 41) dX11_init_41 rfl rfl ?_
  refine T_nO (pc := 42) nf_X11_34 dX11_init_42 (nO_mono (fun x8 h u H => ?_) H)
  refine T_dup (pc := 45) rfl dX11_init_45 ?_
  refine T_aload_n (pc := 46) dX11_init_46 rfl rfl ?_
  refine T_gR (pc := 47) fa_X11_12 dX11_init_47 (gR_mono (fun x9 H => ?_) H)
  refine T_invI (pc := 50) (av := [jR x9]) (rest := [jR (some x8), jR v0]) dX11_init_50 mf_X0_init rfl rfl c_1_90 c_1_91 rfl (Nat.le_of_ble_eq_true rfl) rfl (iV_k (iV_m0 (fun h H => ?_) (J_X0_init (d := d) H)))
  refine T_pVF (pc := 53) fa_X11_37 rfl rfl dX11_init_53 trivial (pV_mono (fun h H => ?_) H)
  refine T_aload_n (pc := 56) dX11_init_56 rfl rfl ?_
  refine T_nO (pc := 57) nf_X11_41 dX11_init_57 (nO_mono (fun x11 h u H => ?_) H)
  refine T_dup (pc := 60) rfl dX11_init_60 ?_
  refine T_aload_n (pc := 61) dX11_init_61 rfl rfl ?_
  refine T_gR (pc := 62) fa_X11_12 dX11_init_62 (gR_mono (fun x12 H => ?_) H)
  refine T_invI (pc := 65) (av := [jR x12]) (rest := [jR (some x11), jR v0]) dX11_init_65 mf_X6_init rfl rfl c_1_100 c_1_101 rfl (Nat.le_of_ble_eq_true rfl) rfl (iV_k (iV_mono (fun h u H => ?_) H))
  refine T_pVF (pc := 68) fa_X11_44 rfl rfl dX11_init_68 trivial (pV_mono (fun h H => ?_) H)
  refine T_aload_n (pc := 71) dX11_init_71 rfl rfl ?_
  refine T_bipush (pc := 72) (v := 16) dX11_init_72 (by decide) ?_
  refine T_nAR (pc := 74) dX11_init_74 (by decide) c_1_139 (by decide) (nA_mono (fun x14 h u H => ?_) H)
  refine T_pVF (pc := 77) fa_X11_50 rfl rfl dX11_init_77 trivial (pV_mono (fun h H => ?_) H)
  refine T_aload_n (pc := 80) dX11_init_80 rfl rfl ?_
  refine T_bipush (pc := 81) (v := 8) dX11_init_81 (by decide) ?_
  refine T_nA (pc := 83) dX11_init_83 rfl (by decide) c_1_65 (nA_mono (fun x15 h u H => ?_) H)
  refine T_pVF (pc := 85) fa_X11_54 rfl rfl dX11_init_85 trivial (pV_mono (fun h H => ?_) H)
  refine T_aload_n (pc := 88) dX11_init_88 rfl rfl ?_
  refine T_bipush (pc := 89) (v := 8) dX11_init_89 (by decide) ?_
  refine T_nA (pc := 91) dX11_init_91 rfl (by decide) c_1_184 (nA_mono (fun x16 h u H => ?_) H)
  refine T_pVF (pc := 93) fa_X11_58 rfl rfl dX11_init_93 trivial (pV_mono (fun h H => ?_) H)
  exact T_return (pc := 96) rfl dX11_init_96 H
theorem I_X11_init {d : Nat} {v0 : Option Nm} {h : MH} {u : Nat} {K : MH → Nat → Prop} (u1 : Nat) (hu : u1 ≤ u) (H : F_X11_init d v0 h u1 (fun h2 => K h2 (u - u1))) : iV (d + 2) u_X11_init [jR v0] h u K := inv.of u1 hu (Ct.of (by decide +kernel) rfl (Nat.le_of_ble_eq_true rfl) rfl (E_X11_init H))
theorem dX11_lay_0 : decode cX11_lay 0 = .ok (.aload_n 0, 1) := by decide +kernel
theorem dX11_lay_1 : decode cX11_lay 1 = .ok (.getfield 12, 3) := by decide +kernel
theorem dX11_lay_4 : decode cX11_lay 4 = .ok (.iload_n 1, 1) := by decide +kernel
theorem dX11_lay_5 : decode cX11_lay 5 = .ok (.i2l, 1) := by decide +kernel
theorem dX11_lay_6 : decode cX11_lay 6 = .ok (.invokevirtual 86, 3) := by decide +kernel
theorem dX11_lay_9 : decode cX11_lay 9 = .ok (.astore 4, 2) := by decide +kernel
theorem dX11_lay_11 : decode cX11_lay 11 = .ok (.aload 4, 2) := by decide +kernel
theorem dX11_lay_13 : decode cX11_lay 13 = .ok (.ifnull 20, 3) := by decide +kernel
theorem dX11_lay_16 : decode cX11_lay 16 = .ok (.iload_n 3, 1) := by decide +kernel
theorem dX11_lay_17 : decode cX11_lay 17 = .ok (.iconst (-1), 1) := by decide +kernel
theorem dX11_lay_18 : decode cX11_lay 18 = .ok (.if_icmp .eq 17, 3) := by decide +kernel
theorem dX11_lay_21 : decode cX11_lay 21 = .ok (.aload_n 0, 1) := by decide +kernel
theorem dX11_lay_22 : decode cX11_lay 22 = .ok (.getfield 12, 3) := by decide +kernel
theorem dX11_lay_25 : decode cX11_lay 25 = .ok (.iload_n 3, 1) := by decide +kernel
theorem dX11_lay_26 : decode cX11_lay 26 = .ok (.i2l, 1) := by decide +kernel
theorem dX11_lay_27 : decode cX11_lay 27 = .ok (.invokevirtual 118, 3) := by decide +kernel
theorem dX11_lay_30 : decode cX11_lay 30 = .ok (.ifnonnull 5, 3) := by decide +kernel
theorem dX11_lay_33 : decode cX11_lay 33 = .ok (.iconst (-1), 1) := by decide +kernel
theorem dX11_lay_34 : decode cX11_lay 34 = .ok (.ireturn, 1) := by decide +kernel
theorem dX11_lay_35 : decode cX11_lay 35 = .ok (.aload 4, 2) := by decide +kernel
theorem dX11_lay_37 : decode cX11_lay 37 = .ok (.getfield 122, 3) := by decide +kernel
theorem dX11_lay_40 : decode cX11_lay 40 = .ok (.ifCond .eq 6, 3) := by decide +kernel
theorem dX11_lay_43 : decode cX11_lay 43 = .ok (.bipush (-3), 2) := by decide +kernel
theorem dX11_lay_45 : decode cX11_lay 45 = .ok (.ireturn, 1) := by decide +kernel
theorem dX11_lay_46 : decode cX11_lay 46 = .ok (.aload 4, 2) := by decide +kernel
theorem dX11_lay_48 : decode cX11_lay 48 = .ok (.iload_n 2, 1) := by decide +kernel
theorem dX11_lay_49 : decode cX11_lay 49 = .ok (.invokestatic 126, 3) := by decide +kernel
theorem dX11_lay_52 : decode cX11_lay 52 = .ok (.istore 5, 2) := by decide +kernel
theorem dX11_lay_54 : decode cX11_lay 54 = .ok (.iload 5, 2) := by decide +kernel
theorem dX11_lay_56 : decode cX11_lay 56 = .ok (.ifCond .eq 10, 3) := by decide +kernel
theorem dX11_lay_59 : decode cX11_lay 59 = .ok (.aload_n 0, 1) := by decide +kernel
theorem dX11_lay_60 : decode cX11_lay 60 = .ok (.iload 5, 2) := by decide +kernel
theorem dX11_lay_62 : decode cX11_lay 62 = .ok (.invokevirtual 72, 3) := by decide +kernel
theorem dX11_lay_65 : decode cX11_lay 65 = .ok (.ireturn, 1) := by decide +kernel
theorem dX11_lay_66 : decode cX11_lay 66 = .ok (.aload 4, 2) := by decide +kernel
theorem dX11_lay_68 : decode cX11_lay 68 = .ok (.getfield 100, 3) := by decide +kernel
theorem dX11_lay_71 : decode cX11_lay 71 = .ok (.iload_n 2, 1) := by decide +kernel
theorem dX11_lay_72 : decode cX11_lay 72 = .ok (.iload_n 3, 1) := by decide +kernel
theorem dX11_lay_73 : decode cX11_lay 73 = .ok (.i2l, 1) := by decide +kernel
theorem dX11_lay_74 : decode cX11_lay 74 = .ok (.lastore, 1) := by decide +kernel
theorem dX11_lay_75 : decode cX11_lay 75 = .ok (.iconst 1, 1) := by decide +kernel
theorem dX11_lay_76 : decode cX11_lay 76 = .ok (.ireturn, 1) := by decide +kernel
def F_X11_lay_35 (d : Nat) (v0 : Option Nm) (v2 : Int32) (v3 : Int32) (v4 : Option Nm) (h : MH) (u : Nat) (Q : Int32 → MH → Prop) : Prop :=
  gI h v4 4 3 fun x1 =>
  if x1 = 0 then
    F_X11_thingFault d v4 v2 h 0 fun x2 h =>
    if x2 = 0 then
      gR h v4 4 2 fun x3 =>
      sV .long h x3 v2 (jL (v3.toInt64)) fun h =>
      Q 1 h
    else
      rc h v0 10 ∧ F_X11_failed (d + 1) v0 x2 h 0 fun x4 h =>
      Q x4 h
  else
    Q (-3) h
set_option maxRecDepth 20000 in
theorem E_X11_lay_35 {d : Nat} {v0 : Option Nm} {v2 : Int32} {v3 : Int32} {v4 : Option Nm} {h : MH} {u : Nat} {Q : Int32 → MH → Prop} (H : F_X11_lay_35 d v0 v2 v3 v4 h u Q) : T u_X11_lay (d + 2) 35 [some (jR v0), none, some (jI v2), some (jI v3), some (jR v4), none] [] h u (qI Q) := by
  unfold F_X11_lay_35 at H
  refine T_aload (pc := 35) dX11_lay_35 rfl ?_
  refine T_gI (pc := 37) fa_X11_122 dX11_lay_37 (gI_mono (fun x1 H => ?_) H)
  refine T_if_eq (pc := 40) (tgt := 46) dX11_lay_40 (by decide) (fun hc => ?_) (fun hc => ?_)
  · rw [if_pos hc] at H
    refine T_aload (pc := 46) dX11_lay_46 rfl ?_
    refine T_iload_n (pc := 48) dX11_lay_48 rfl rfl ?_
    refine T_invS (pc := 49) (av := [jR v4, jI v2]) (rest := []) dX11_lay_49 mf_X11_thingFault c_2_67 c_2_68 rfl (Nat.le_of_ble_eq_true rfl) rfl (iI_k (iI_m0 (fun x2 h H => ?_) (J_X11_thingFault (d := d) H)))
    refine T_istore (pc := 52) (ls2 := [some (jR v0), none, some (jI v2), some (jI v3), some (jR v4), some (jI x2)]) dX11_lay_52 (Nat.le_of_ble_eq_true rfl) rfl ?_
    refine T_iload (pc := 54) dX11_lay_54 rfl ?_
    refine T_if_eq (pc := 56) (tgt := 66) dX11_lay_56 (by decide) (fun hc => ?_) (fun hc => ?_)
    · rw [if_pos hc] at H
      refine T_aload (pc := 66) dX11_lay_66 rfl ?_
      refine T_gR (pc := 68) fa_X11_100 dX11_lay_68 (gR_mono (fun x3 H => ?_) H)
      refine T_iload_n (pc := 71) dX11_lay_71 rfl rfl ?_
      refine T_iload_n (pc := 72) dX11_lay_72 rfl rfl ?_
      refine T_i2l (pc := 73) dX11_lay_73 ?_
      refine T_sL (pc := 74) dX11_lay_74 (sV_mono (fun h H => ?_) H)
      refine T_iconst (pc := 75) (v := 1) dX11_lay_75 (by decide) ?_
      exact T_ireturn (pc := 76) rfl rfl dX11_lay_76 H
    · rw [if_neg hc] at H
      refine T_aload_n (pc := 59) dX11_lay_59 rfl rfl ?_
      refine T_iload (pc := 60) dX11_lay_60 rfl ?_
      obtain ⟨H0, H⟩ := H
      refine T_iV (pc := 62) (ci := 10) (av := [jI x2]) (rest := []) (o := v0) dX11_lay_62 mf_X11_failed c_1_196 c_1_198 pr_X11_failed rfl rfl (Nat.le_of_ble_eq_true rfl) rfl H0 (iI_k (iI_m0 (fun x4 h H => ?_) (J_X11_failed (d := (d + 1)) H)))
      exact T_ireturn (pc := 65) rfl rfl dX11_lay_65 H
  · rw [if_neg hc] at H
    refine T_bipush (pc := 43) (v := (-3)) dX11_lay_43 (by decide) ?_
    exact T_ireturn (pc := 45) rfl rfl dX11_lay_45 H
def F_X11_lay (d : Nat) (v0 : Option Nm) (v1 : Int32) (v2 : Int32) (v3 : Int32) (h : MH) (u : Nat) (Q : Int32 → MH → Prop) : Prop :=
  gR h v0 10 0 fun x1 =>
  rc h x1 6 ∧ F_X7_findRow (d + 1) x1 (v1.toInt64) h 0 fun x2 h =>
  nl x2 (
    Q (-1) h) (
    if v3 = (-1) then
      F_X11_lay_35 d v0 v2 v3 x2 h u Q
    else
      gR h v0 10 0 fun x3 =>
      rc h x3 6 ∧ F_X7_findValue (d + 1) x3 (v3.toInt64) h 0 fun x4 h =>
      nl x4 (
        Q (-1) h) (
        F_X11_lay_35 d v0 v2 v3 x2 h u Q))
set_option maxRecDepth 20000 in
theorem E_X11_lay {d : Nat} {v0 : Option Nm} {v1 : Int32} {v2 : Int32} {v3 : Int32} {h : MH} {u : Nat} {Q : Int32 → MH → Prop} (H : F_X11_lay d v0 v1 v2 v3 h u Q) : T u_X11_lay (d + 2) 0 [some (jR v0), some (jI v1), some (jI v2), some (jI v3), none, none] [] h u (qI Q) := by
  unfold F_X11_lay at H
  refine T_aload_n (pc := 0) dX11_lay_0 rfl rfl ?_
  refine T_gR (pc := 1) fa_X11_12 dX11_lay_1 (gR_mono (fun x1 H => ?_) H)
  refine T_iload_n (pc := 4) dX11_lay_4 rfl rfl ?_
  refine T_i2l (pc := 5) dX11_lay_5 ?_
  obtain ⟨H0, H⟩ := H
  refine T_iV (pc := 6) (ci := 6) (av := [jL (v1.toInt64)]) (rest := []) (o := x1) dX11_lay_6 mf_X7_findRow c_2_1 c_2_2 c_2_3 rfl rfl (Nat.le_of_ble_eq_true rfl) rfl H0 (iR_k (iR_m0 (fun x2 h H => ?_) (J_X7_findRow (d := (d + 1)) H)))
  refine T_astore (pc := 9) (ls2 := [some (jR v0), some (jI v1), some (jI v2), some (jI v3), some (jR x2), none]) dX11_lay_9 (Nat.le_of_ble_eq_true rfl) rfl ?_
  refine T_aload (pc := 11) dX11_lay_11 rfl ?_
  refine T_ifnull (pc := 13) (tgt := 33) dX11_lay_13 (by decide) (fun ho => ?_) (fun n ho => ?_)
  · replace H := nl_n ho H
    refine T_iconst (pc := 33) (v := (-1)) dX11_lay_33 (by decide) ?_
    exact T_ireturn (pc := 34) rfl rfl dX11_lay_34 H
  · replace H := nl_s ho H
    refine T_iload_n (pc := 16) dX11_lay_16 rfl rfl ?_
    refine T_iconst (pc := 17) (v := (-1)) dX11_lay_17 (by decide) ?_
    refine T_icmp_eq (pc := 18) (tgt := 35) dX11_lay_18 (by decide) (fun hc => ?_) (fun hc => ?_)
    · rw [if_pos hc] at H
      exact T.forget (E_X11_lay_35 H) ⟨rfl, rfl, rfl, rfl, trivial⟩
    · rw [if_neg hc] at H
      refine T_aload_n (pc := 21) dX11_lay_21 rfl rfl ?_
      refine T_gR (pc := 22) fa_X11_12 dX11_lay_22 (gR_mono (fun x3 H => ?_) H)
      refine T_iload_n (pc := 25) dX11_lay_25 rfl rfl ?_
      refine T_i2l (pc := 26) dX11_lay_26 ?_
      obtain ⟨H0, H⟩ := H
      refine T_iV (pc := 27) (ci := 6) (av := [jL (v3.toInt64)]) (rest := []) (o := x3) dX11_lay_27 mf_X7_findValue c_2_63 c_2_64 c_2_65 rfl rfl (Nat.le_of_ble_eq_true rfl) rfl H0 (iR_k (iR_m0 (fun x4 h H => ?_) (J_X7_findValue (d := (d + 1)) H)))
      refine T_ifnonnull (pc := 30) (tgt := 35) dX11_lay_30 (by decide) (fun ho => ?_) (fun n ho => ?_)
      · replace H := nl_n ho H
        refine T_iconst (pc := 33) (v := (-1)) dX11_lay_33 (by decide) ?_
        exact T_ireturn (pc := 34) rfl rfl dX11_lay_34 H
      · replace H := nl_s ho H
        exact T.forget (E_X11_lay_35 H) ⟨rfl, rfl, rfl, rfl, trivial⟩
theorem I_X11_lay {d : Nat} {v0 : Option Nm} {v1 : Int32} {v2 : Int32} {v3 : Int32} {h : MH} {u : Nat} {K : Int32 → MH → Nat → Prop} (u1 : Nat) (hu : u1 ≤ u) (H : F_X11_lay d v0 v1 v2 v3 h u1 (fun x h2 => K x h2 (u - u1))) : iI (d + 2) u_X11_lay [jR v0, jI v1, jI v2, jI v3] h u K := inv.of u1 hu (Ct.of (by decide +kernel) rfl (Nat.le_of_ble_eq_true rfl) rfl (E_X11_lay H))
theorem J_X11_lay {d : Nat} {v0 : Option Nm} {v1 : Int32} {v2 : Int32} {v3 : Int32} {h : MH} {u : Nat} {K : Int32 → MH → Prop} (H : F_X11_lay d v0 v1 v2 v3 h 0 K) : iI (d + 2) u_X11_lay [jR v0, jI v1, jI v2, jI v3] h u (fun x h2 u2 => K x h2 ∧ u2 = u) := jiI (by decide +kernel) rfl (Nat.le_of_ble_eq_true rfl) rfl (E_X11_lay H)
theorem dX11_leaveTrace_0 : decode cX11_leaveTrace 0 = .ok (.aload_n 0, 1) := by decide +kernel
theorem dX11_leaveTrace_1 : decode cX11_leaveTrace 1 = .ok (.bipush 31, 2) := by decide +kernel
theorem dX11_leaveTrace_3 : decode cX11_leaveTrace 3 = .ok (.aload_n 0, 1) := by decide +kernel
theorem dX11_leaveTrace_4 : decode cX11_leaveTrace 4 = .ok (.getfield 323, 3) := by decide +kernel
theorem dX11_leaveTrace_7 : decode cX11_leaveTrace 7 = .ok (.imul, 1) := by decide +kernel
theorem dX11_leaveTrace_8 : decode cX11_leaveTrace 8 = .ok (.iload_n 1, 1) := by decide +kernel
theorem dX11_leaveTrace_9 : decode cX11_leaveTrace 9 = .ok (.iadd, 1) := by decide +kernel
theorem dX11_leaveTrace_10 : decode cX11_leaveTrace 10 = .ok (.putfield 323, 3) := by decide +kernel
theorem dX11_leaveTrace_13 : decode cX11_leaveTrace 13 = .ok (.return_, 1) := by decide +kernel
def F_X11_leaveTrace (d : Nat) (v0 : Option Nm) (v1 : Int32) (h : MH) (u : Nat) (Q : MH → Prop) : Prop :=
  gI h v0 10 11 fun x1 =>
  pV h v0 10 11 (jI ((31 * x1) + v1)) fun h =>
  Q h
set_option maxRecDepth 20000 in
theorem E_X11_leaveTrace {d : Nat} {v0 : Option Nm} {v1 : Int32} {h : MH} {u : Nat} {Q : MH → Prop} (H : F_X11_leaveTrace d v0 v1 h u Q) : T u_X11_leaveTrace d 0 [some (jR v0), some (jI v1)] [] h u (qV Q) := by
  unfold F_X11_leaveTrace at H
  refine T_aload_n (pc := 0) dX11_leaveTrace_0 rfl rfl ?_
  refine T_bipush (pc := 1) (v := 31) dX11_leaveTrace_1 (by decide) ?_
  refine T_aload_n (pc := 3) dX11_leaveTrace_3 rfl rfl ?_
  refine T_gI (pc := 4) fa_X11_323 dX11_leaveTrace_4 (gI_mono (fun x1 H => ?_) H)
  refine T_imul (pc := 7) dX11_leaveTrace_7 ?_
  refine T_iload_n (pc := 8) dX11_leaveTrace_8 rfl rfl ?_
  refine T_iadd (pc := 9) dX11_leaveTrace_9 ?_
  refine T_pV (pc := 10) fa_X11_323 dX11_leaveTrace_10 trivial (pV_mono (fun h H => ?_) H)
  exact T_return (pc := 13) rfl dX11_leaveTrace_13 H
theorem I_X11_leaveTrace {d : Nat} {v0 : Option Nm} {v1 : Int32} {h : MH} {u : Nat} {K : MH → Nat → Prop} (u1 : Nat) (hu : u1 ≤ u) (H : F_X11_leaveTrace d v0 v1 h u1 (fun h2 => K h2 (u - u1))) : iV d u_X11_leaveTrace [jR v0, jI v1] h u K := inv.of u1 hu (Ct.of (by decide +kernel) rfl (Nat.le_of_ble_eq_true rfl) rfl (E_X11_leaveTrace H))
theorem J_X11_leaveTrace {d : Nat} {v0 : Option Nm} {v1 : Int32} {h : MH} {u : Nat} {K : MH → Prop} (H : F_X11_leaveTrace d v0 v1 h 0 K) : iV d u_X11_leaveTrace [jR v0, jI v1] h u (fun h2 u2 => K h2 ∧ u2 = u) := jiV (by decide +kernel) rfl (Nat.le_of_ble_eq_true rfl) rfl (E_X11_leaveTrace H)
theorem dX11_length_0 : decode cX11_length 0 = .ok (.aload_n 0, 1) := by decide +kernel
theorem dX11_length_1 : decode cX11_length 1 = .ok (.getfield 12, 3) := by decide +kernel
theorem dX11_length_4 : decode cX11_length 4 = .ok (.iload_n 1, 1) := by decide +kernel
theorem dX11_length_5 : decode cX11_length 5 = .ok (.i2l, 1) := by decide +kernel
theorem dX11_length_6 : decode cX11_length 6 = .ok (.invokevirtual 86, 3) := by decide +kernel
theorem dX11_length_9 : decode cX11_length 9 = .ok (.astore_n 3, 1) := by decide +kernel
theorem dX11_length_10 : decode cX11_length 10 = .ok (.aload_n 3, 1) := by decide +kernel
theorem dX11_length_11 : decode cX11_length 11 = .ok (.ifnonnull 5, 3) := by decide +kernel
theorem dX11_length_14 : decode cX11_length 14 = .ok (.iconst (-1), 1) := by decide +kernel
theorem dX11_length_15 : decode cX11_length 15 = .ok (.ireturn, 1) := by decide +kernel
theorem dX11_length_16 : decode cX11_length 16 = .ok (.iload_n 2, 1) := by decide +kernel
theorem dX11_length_17 : decode cX11_length 17 = .ok (.tableswitch 46 0 2 #[27, 32, 38], 27) := by decide +kernel
theorem dX11_length_44 : decode cX11_length 44 = .ok (.aload_n 3, 1) := by decide +kernel
theorem dX11_length_45 : decode cX11_length 45 = .ok (.getfield 93, 3) := by decide +kernel
theorem dX11_length_48 : decode cX11_length 48 = .ok (.ireturn, 1) := by decide +kernel
theorem dX11_length_49 : decode cX11_length 49 = .ok (.aload_n 3, 1) := by decide +kernel
theorem dX11_length_50 : decode cX11_length 50 = .ok (.getfield 100, 3) := by decide +kernel
theorem dX11_length_53 : decode cX11_length 53 = .ok (.arraylength, 1) := by decide +kernel
theorem dX11_length_54 : decode cX11_length 54 = .ok (.ireturn, 1) := by decide +kernel
theorem dX11_length_55 : decode cX11_length 55 = .ok (.aload_n 3, 1) := by decide +kernel
theorem dX11_length_56 : decode cX11_length 56 = .ok (.getfield 122, 3) := by decide +kernel
theorem dX11_length_59 : decode cX11_length 59 = .ok (.invokestatic 133, 3) := by decide +kernel
theorem dX11_length_62 : decode cX11_length 62 = .ok (.ireturn, 1) := by decide +kernel
theorem dX11_length_63 : decode cX11_length 63 = .ok (.bipush (-2), 2) := by decide +kernel
theorem dX11_length_65 : decode cX11_length 65 = .ok (.ireturn, 1) := by decide +kernel
def F_X11_length (d : Nat) (v0 : Option Nm) (v1 : Int32) (v2 : Int32) (h : MH) (u : Nat) (Q : Int32 → MH → Prop) : Prop :=
  gR h v0 10 0 fun x1 =>
  rc h x1 6 ∧ F_X7_findRow d x1 (v1.toInt64) h 0 fun x2 h =>
  nl x2 (
    Q (-1) h) (
    if v2 = 0 then
      gI h x2 4 1 fun x3 =>
      Q x3 h
    else if v2 = 1 then
      gR h x2 4 2 fun x4 =>
      aN h x4 fun x5 =>
      Q x5 h
    else if v2 = 2 then
      gI h x2 4 3 fun x6 =>
      F_X11_oneIf d x6 h 0 fun x7 h =>
      Q x7 h
    else 
      Q (-2) h)
set_option maxRecDepth 20000 in
theorem E_X11_length {d : Nat} {v0 : Option Nm} {v1 : Int32} {v2 : Int32} {h : MH} {u : Nat} {Q : Int32 → MH → Prop} (H : F_X11_length d v0 v1 v2 h u Q) : T u_X11_length (d + 1) 0 [some (jR v0), some (jI v1), some (jI v2), none] [] h u (qI Q) := by
  unfold F_X11_length at H
  refine T_aload_n (pc := 0) dX11_length_0 rfl rfl ?_
  refine T_gR (pc := 1) fa_X11_12 dX11_length_1 (gR_mono (fun x1 H => ?_) H)
  refine T_iload_n (pc := 4) dX11_length_4 rfl rfl ?_
  refine T_i2l (pc := 5) dX11_length_5 ?_
  obtain ⟨H0, H⟩ := H
  refine T_iV (pc := 6) (ci := 6) (av := [jL (v1.toInt64)]) (rest := []) (o := x1) dX11_length_6 mf_X7_findRow c_2_1 c_2_2 c_2_3 rfl rfl (Nat.le_of_ble_eq_true rfl) rfl H0 (iR_k (iR_m0 (fun x2 h H => ?_) (J_X7_findRow (d := d) H)))
  refine T_astore_n (pc := 9) (ls2 := [some (jR v0), some (jI v1), some (jI v2), some (jR x2)]) dX11_length_9 rfl (Nat.le_of_ble_eq_true rfl) rfl ?_
  refine T_aload_n (pc := 10) dX11_length_10 rfl rfl ?_
  refine T_ifnonnull (pc := 11) (tgt := 16) dX11_length_11 (by decide) (fun ho => ?_) (fun n ho => ?_)
  · replace H := nl_n ho H
    refine T_iconst (pc := 14) (v := (-1)) dX11_length_14 (by decide) ?_
    exact T_ireturn (pc := 15) rfl rfl dX11_length_15 H
  · replace H := nl_s ho H
    refine T_iload_n (pc := 16) dX11_length_16 rfl rfl ?_
    by_cases h0 : v2 = 0
    · rw [if_pos h0] at H
      refine T_tableIn (pc := 17) (off := 27) (tgt := 44) dX11_length_17 (by rw [h0]; decide) (by rw [h0]; decide) (by rw [h0]; rfl) (by decide) ?_
      refine T_aload_n (pc := 44) dX11_length_44 rfl rfl ?_
      refine T_gI (pc := 45) fa_X11_93 dX11_length_45 (gI_mono (fun x3 H => ?_) H)
      exact T_ireturn (pc := 48) rfl rfl dX11_length_48 H
    rw [if_neg h0] at H
    by_cases h1 : v2 = 1
    · rw [if_pos h1] at H
      refine T_tableIn (pc := 17) (off := 32) (tgt := 49) dX11_length_17 (by rw [h1]; decide) (by rw [h1]; decide) (by rw [h1]; rfl) (by decide) ?_
      refine T_aload_n (pc := 49) dX11_length_49 rfl rfl ?_
      refine T_gR (pc := 50) fa_X11_100 dX11_length_50 (gR_mono (fun x4 H => ?_) H)
      refine T_aN (pc := 53) dX11_length_53 (aN_mono (fun x5 H => ?_) H)
      exact T_ireturn (pc := 54) rfl rfl dX11_length_54 H
    rw [if_neg h1] at H
    by_cases h2 : v2 = 2
    · rw [if_pos h2] at H
      refine T_tableIn (pc := 17) (off := 38) (tgt := 55) dX11_length_17 (by rw [h2]; decide) (by rw [h2]; decide) (by rw [h2]; rfl) (by decide) ?_
      refine T_aload_n (pc := 55) dX11_length_55 rfl rfl ?_
      refine T_gI (pc := 56) fa_X11_122 dX11_length_56 (gI_mono (fun x6 H => ?_) H)
      refine T_invS (pc := 59) (av := [jI x6]) (rest := []) dX11_length_59 mf_X11_oneIf c_2_83 c_2_84 rfl (Nat.le_of_ble_eq_true rfl) rfl (iI_k (iI_m0 (fun x7 h H => ?_) (J_X11_oneIf (d := d) H)))
      exact T_ireturn (pc := 62) rfl rfl dX11_length_62 H
    rw [if_neg h2] at H
    have e0 : (v2 : Int32).toInt ≠ 0 := fun q => h0 (Int32.toInt_inj.mp (q.trans (by decide)))
    have e1 : (v2 : Int32).toInt ≠ 1 := fun q => h1 (Int32.toInt_inj.mp (q.trans (by decide)))
    have e2 : (v2 : Int32).toInt ≠ 2 := fun q => h2 (Int32.toInt_inj.mp (q.trans (by decide)))
    refine T_tableOut (pc := 17) (tgt := 63) dX11_length_17 (by omega) (by decide) ?_
    refine T_bipush (pc := 63) (v := (-2)) dX11_length_63 (by decide) ?_
    exact T_ireturn (pc := 65) rfl rfl dX11_length_65 H
theorem I_X11_length {d : Nat} {v0 : Option Nm} {v1 : Int32} {v2 : Int32} {h : MH} {u : Nat} {K : Int32 → MH → Nat → Prop} (u1 : Nat) (hu : u1 ≤ u) (H : F_X11_length d v0 v1 v2 h u1 (fun x h2 => K x h2 (u - u1))) : iI (d + 1) u_X11_length [jR v0, jI v1, jI v2] h u K := inv.of u1 hu (Ct.of (by decide +kernel) rfl (Nat.le_of_ble_eq_true rfl) rfl (E_X11_length H))
theorem J_X11_length {d : Nat} {v0 : Option Nm} {v1 : Int32} {v2 : Int32} {h : MH} {u : Nat} {K : Int32 → MH → Prop} (H : F_X11_length d v0 v1 v2 h 0 K) : iI (d + 1) u_X11_length [jR v0, jI v1, jI v2] h u (fun x h2 u2 => K x h2 ∧ u2 = u) := jiI (by decide +kernel) rfl (Nat.le_of_ble_eq_true rfl) rfl (E_X11_length H)
theorem dX9_faultFor_0 : decode cX9_faultFor 0 = .ok (.aload_n 0, 1) := by decide +kernel
theorem dX9_faultFor_1 : decode cX9_faultFor 1 = .ok (.getfield 9, 3) := by decide +kernel
theorem dX9_faultFor_4 : decode cX9_faultFor 4 = .ok (.iload_n 1, 1) := by decide +kernel
theorem dX9_faultFor_5 : decode cX9_faultFor 5 = .ok (.iaload, 1) := by decide +kernel
theorem dX9_faultFor_6 : decode cX9_faultFor 6 = .ok (.iconst (-1), 1) := by decide +kernel
theorem dX9_faultFor_7 : decode cX9_faultFor 7 = .ok (.if_icmp .ne 16, 3) := by decide +kernel
theorem dX9_faultFor_10 : decode cX9_faultFor 10 = .ok (.iload_n 2, 1) := by decide +kernel
theorem dX9_faultFor_11 : decode cX9_faultFor 11 = .ok (.invokestatic 19, 3) := by decide +kernel
theorem dX9_faultFor_14 : decode cX9_faultFor 14 = .ok (.ifCond .eq 7, 3) := by decide +kernel
theorem dX9_faultFor_17 : decode cX9_faultFor 17 = .ok (.iconst 1, 1) := by decide +kernel
theorem dX9_faultFor_18 : decode cX9_faultFor 18 = .ok (.goto 4, 3) := by decide +kernel
theorem dX9_faultFor_21 : decode cX9_faultFor 21 = .ok (.iconst 0, 1) := by decide +kernel
theorem dX9_faultFor_22 : decode cX9_faultFor 22 = .ok (.ireturn, 1) := by decide +kernel
theorem dX9_faultFor_23 : decode cX9_faultFor 23 = .ok (.aload_n 0, 1) := by decide +kernel
theorem dX9_faultFor_24 : decode cX9_faultFor 24 = .ok (.getfield 9, 3) := by decide +kernel
theorem dX9_faultFor_27 : decode cX9_faultFor 27 = .ok (.iload_n 1, 1) := by decide +kernel
theorem dX9_faultFor_28 : decode cX9_faultFor 28 = .ok (.iaload, 1) := by decide +kernel
theorem dX9_faultFor_29 : decode cX9_faultFor 29 = .ok (.iload_n 2, 1) := by decide +kernel
theorem dX9_faultFor_30 : decode cX9_faultFor 30 = .ok (.invokestatic 25, 3) := by decide +kernel
theorem dX9_faultFor_33 : decode cX9_faultFor 33 = .ok (.ifCond .eq 7, 3) := by decide +kernel
theorem dX9_faultFor_36 : decode cX9_faultFor 36 = .ok (.iconst 0, 1) := by decide +kernel
theorem dX9_faultFor_37 : decode cX9_faultFor 37 = .ok (.goto 4, 3) := by decide +kernel
theorem dX9_faultFor_40 : decode cX9_faultFor 40 = .ok (.iconst 3, 1) := by decide +kernel
theorem dX9_faultFor_41 : decode cX9_faultFor 41 = .ok (.ireturn, 1) := by decide +kernel
def F_X9_faultFor (d : Nat) (v0 : Option Nm) (v1 : Int32) (v2 : Int32) (h : MH) (u : Nat) (Q : Int32 → MH → Prop) : Prop :=
  gR h v0 8 0 fun x1 =>
  aI .int h x1 v1 fun x2 =>
  if x2 = (-1) then
    F_X4_isNumber d v2 h 0 fun x6 h =>
    if x6 = 0 then
      Q 0 h
    else
      Q 1 h
  else
    gR h v0 8 0 fun x3 =>
    aI .int h x3 v1 fun x4 =>
    F_X4_isWidened d x4 v2 h 0 fun x5 h =>
    if x5 = 0 then
      Q 3 h
    else
      Q 0 h
set_option maxRecDepth 20000 in
theorem E_X9_faultFor {d : Nat} {v0 : Option Nm} {v1 : Int32} {v2 : Int32} {h : MH} {u : Nat} {Q : Int32 → MH → Prop} (H : F_X9_faultFor d v0 v1 v2 h u Q) : T u_X9_faultFor (d + 1) 0 [some (jR v0), some (jI v1), some (jI v2)] [] h u (qI Q) := by
  unfold F_X9_faultFor at H
  refine T_aload_n (pc := 0) dX9_faultFor_0 rfl rfl ?_
  refine T_gR (pc := 1) fa_X9_9 dX9_faultFor_1 (gR_mono (fun x1 H => ?_) H)
  refine T_iload_n (pc := 4) dX9_faultFor_4 rfl rfl ?_
  refine T_aI (pc := 5) dX9_faultFor_5 (aI_mono (fun x2 H => ?_) H)
  refine T_iconst (pc := 6) (v := (-1)) dX9_faultFor_6 (by decide) ?_
  refine T_icmp_ne (pc := 7) (tgt := 23) dX9_faultFor_7 (by decide) (fun hc => ?_) (fun hc => ?_)
  · rw [if_neg hc] at H
    refine T_aload_n (pc := 23) dX9_faultFor_23 rfl rfl ?_
    refine T_gR (pc := 24) fa_X9_9 dX9_faultFor_24 (gR_mono (fun x3 H => ?_) H)
    refine T_iload_n (pc := 27) dX9_faultFor_27 rfl rfl ?_
    refine T_aI (pc := 28) dX9_faultFor_28 (aI_mono (fun x4 H => ?_) H)
    refine T_iload_n (pc := 29) dX9_faultFor_29 rfl rfl ?_
    refine T_invS (pc := 30) (av := [jI x4, jI v2]) (rest := []) dX9_faultFor_30 mf_X4_isWidened c_3_154 c_2_16 rfl (Nat.le_of_ble_eq_true rfl) rfl (iI_k (iI_m0 (fun x5 h H => ?_) (J_X4_isWidened (d := d) H)))
    refine T_if_eq (pc := 33) (tgt := 40) dX9_faultFor_33 (by decide) (fun hc => ?_) (fun hc => ?_)
    · rw [if_pos hc] at H
      refine T_iconst (pc := 40) (v := 3) dX9_faultFor_40 (by decide) ?_
      exact T_ireturn (pc := 41) rfl rfl dX9_faultFor_41 H
    · rw [if_neg hc] at H
      refine T_iconst (pc := 36) (v := 0) dX9_faultFor_36 (by decide) ?_
      refine T_goto (pc := 37) (tgt := 41) dX9_faultFor_37 (by decide) ?_
      exact T_ireturn (pc := 41) rfl rfl dX9_faultFor_41 H
  · rw [if_pos hc] at H
    refine T_iload_n (pc := 10) dX9_faultFor_10 rfl rfl ?_
    refine T_invS (pc := 11) (av := [jI v2]) (rest := []) dX9_faultFor_11 mf_X4_isNumber c_3_153 c_2_6 rfl (Nat.le_of_ble_eq_true rfl) rfl (iI_k (iI_m0 (fun x6 h H => ?_) (J_X4_isNumber (d := d) H)))
    refine T_if_eq (pc := 14) (tgt := 21) dX9_faultFor_14 (by decide) (fun hc => ?_) (fun hc => ?_)
    · rw [if_pos hc] at H
      refine T_iconst (pc := 21) (v := 0) dX9_faultFor_21 (by decide) ?_
      exact T_ireturn (pc := 22) rfl rfl dX9_faultFor_22 H
    · rw [if_neg hc] at H
      refine T_iconst (pc := 17) (v := 1) dX9_faultFor_17 (by decide) ?_
      refine T_goto (pc := 18) (tgt := 22) dX9_faultFor_18 (by decide) ?_
      exact T_ireturn (pc := 22) rfl rfl dX9_faultFor_22 H
theorem I_X9_faultFor {d : Nat} {v0 : Option Nm} {v1 : Int32} {v2 : Int32} {h : MH} {u : Nat} {K : Int32 → MH → Nat → Prop} (u1 : Nat) (hu : u1 ≤ u) (H : F_X9_faultFor d v0 v1 v2 h u1 (fun x h2 => K x h2 (u - u1))) : iI (d + 1) u_X9_faultFor [jR v0, jI v1, jI v2] h u K := inv.of u1 hu (Ct.of (by decide +kernel) rfl (Nat.le_of_ble_eq_true rfl) rfl (E_X9_faultFor H))
theorem J_X9_faultFor {d : Nat} {v0 : Option Nm} {v1 : Int32} {v2 : Int32} {h : MH} {u : Nat} {K : Int32 → MH → Prop} (H : F_X9_faultFor d v0 v1 v2 h 0 K) : iI (d + 1) u_X9_faultFor [jR v0, jI v1, jI v2] h u (fun x h2 u2 => K x h2 ∧ u2 = u) := jiI (by decide +kernel) rfl (Nat.le_of_ble_eq_true rfl) rfl (E_X9_faultFor H)
theorem dX9_widenedTo_0 : decode cX9_widenedTo 0 = .ok (.aload_n 0, 1) := by decide +kernel
theorem dX9_widenedTo_1 : decode cX9_widenedTo 1 = .ok (.getfield 9, 3) := by decide +kernel
theorem dX9_widenedTo_4 : decode cX9_widenedTo 4 = .ok (.iload_n 1, 1) := by decide +kernel
theorem dX9_widenedTo_5 : decode cX9_widenedTo 5 = .ok (.iaload, 1) := by decide +kernel
theorem dX9_widenedTo_6 : decode cX9_widenedTo 6 = .ok (.iconst (-1), 1) := by decide +kernel
theorem dX9_widenedTo_7 : decode cX9_widenedTo 7 = .ok (.if_icmp .ne 9, 3) := by decide +kernel
theorem dX9_widenedTo_10 : decode cX9_widenedTo 10 = .ok (.ldc2_w 29, 3) := by decide +kernel
theorem dX9_widenedTo_13 : decode cX9_widenedTo 13 = .ok (.goto 19, 3) := by decide +kernel
theorem dX9_widenedTo_16 : decode cX9_widenedTo 16 = .ok (.aload_n 0, 1) := by decide +kernel
theorem dX9_widenedTo_17 : decode cX9_widenedTo 17 = .ok (.getfield 9, 3) := by decide +kernel
theorem dX9_widenedTo_20 : decode cX9_widenedTo 20 = .ok (.iload_n 1, 1) := by decide +kernel
theorem dX9_widenedTo_21 : decode cX9_widenedTo 21 = .ok (.iaload, 1) := by decide +kernel
theorem dX9_widenedTo_22 : decode cX9_widenedTo 22 = .ok (.iload_n 2, 1) := by decide +kernel
theorem dX9_widenedTo_23 : decode cX9_widenedTo 23 = .ok (.aload_n 0, 1) := by decide +kernel
theorem dX9_widenedTo_24 : decode cX9_widenedTo 24 = .ok (.getfield 15, 3) := by decide +kernel
theorem dX9_widenedTo_27 : decode cX9_widenedTo 27 = .ok (.iload_n 1, 1) := by decide +kernel
theorem dX9_widenedTo_28 : decode cX9_widenedTo 28 = .ok (.laload, 1) := by decide +kernel
theorem dX9_widenedTo_29 : decode cX9_widenedTo 29 = .ok (.invokestatic 31, 3) := by decide +kernel
theorem dX9_widenedTo_32 : decode cX9_widenedTo 32 = .ok (.lreturn, 1) := by decide +kernel
def F_X9_widenedTo (d : Nat) (v0 : Option Nm) (v1 : Int32) (v2 : Int32) (h : MH) (u : Nat) (Q : Int64 → MH → Prop) : Prop :=
  gR h v0 8 0 fun x1 =>
  aI .int h x1 v1 fun x2 =>
  if x2 = (-1) then
    Q (-1) h
  else
    gR h v0 8 0 fun x3 =>
    aI .int h x3 v1 fun x4 =>
    gR h v0 8 1 fun x5 =>
    aL h x5 v1 fun x6 =>
    F_X4_widen d x4 v2 x6 h 0 fun x7 h =>
    Q x7 h
set_option maxRecDepth 20000 in
theorem E_X9_widenedTo {d : Nat} {v0 : Option Nm} {v1 : Int32} {v2 : Int32} {h : MH} {u : Nat} {Q : Int64 → MH → Prop} (H : F_X9_widenedTo d v0 v1 v2 h u Q) : T u_X9_widenedTo (d + 5) 0 [some (jR v0), some (jI v1), some (jI v2)] [] h u (qL Q) := by
  unfold F_X9_widenedTo at H
  refine T_aload_n (pc := 0) dX9_widenedTo_0 rfl rfl ?_
  refine T_gR (pc := 1) fa_X9_9 dX9_widenedTo_1 (gR_mono (fun x1 H => ?_) H)
  refine T_iload_n (pc := 4) dX9_widenedTo_4 rfl rfl ?_
  refine T_aI (pc := 5) dX9_widenedTo_5 (aI_mono (fun x2 H => ?_) H)
  refine T_iconst (pc := 6) (v := (-1)) dX9_widenedTo_6 (by decide) ?_
  refine T_icmp_ne (pc := 7) (tgt := 16) dX9_widenedTo_7 (by decide) (fun hc => ?_) (fun hc => ?_)
  · rw [if_neg hc] at H
    refine T_aload_n (pc := 16) dX9_widenedTo_16 rfl rfl ?_
    refine T_gR (pc := 17) fa_X9_9 dX9_widenedTo_17 (gR_mono (fun x3 H => ?_) H)
    refine T_iload_n (pc := 20) dX9_widenedTo_20 rfl rfl ?_
    refine T_aI (pc := 21) dX9_widenedTo_21 (aI_mono (fun x4 H => ?_) H)
    refine T_iload_n (pc := 22) dX9_widenedTo_22 rfl rfl ?_
    refine T_aload_n (pc := 23) dX9_widenedTo_23 rfl rfl ?_
    refine T_gR (pc := 24) fa_X9_15 dX9_widenedTo_24 (gR_mono (fun x5 H => ?_) H)
    refine T_iload_n (pc := 27) dX9_widenedTo_27 rfl rfl ?_
    refine T_aL (pc := 28) dX9_widenedTo_28 (aL_mono (fun x6 H => ?_) H)
    refine T_invS (pc := 29) (av := [jI x4, jI v2, jL x6]) (rest := []) dX9_widenedTo_29 mf_X4_widen c_3_160 c_2_40 rfl (Nat.le_of_ble_eq_true rfl) rfl (iL_k (iL_m0 (fun x7 h H => ?_) (J_X4_widen (d := d) H)))
    exact T_lreturn (pc := 32) rfl dX9_widenedTo_32 H
  · rw [if_pos hc] at H
    refine T_ldc2 (pc := 10) (v := (-1)) dX9_widenedTo_10 c_3_159 ?_
    refine T_goto (pc := 13) (tgt := 32) dX9_widenedTo_13 (by decide) ?_
    exact T_lreturn (pc := 32) rfl dX9_widenedTo_32 H
theorem I_X9_widenedTo {d : Nat} {v0 : Option Nm} {v1 : Int32} {v2 : Int32} {h : MH} {u : Nat} {K : Int64 → MH → Nat → Prop} (u1 : Nat) (hu : u1 ≤ u) (H : F_X9_widenedTo d v0 v1 v2 h u1 (fun x h2 => K x h2 (u - u1))) : iL (d + 5) u_X9_widenedTo [jR v0, jI v1, jI v2] h u K := inv.of u1 hu (Ct.of (by decide +kernel) rfl (Nat.le_of_ble_eq_true rfl) rfl (E_X9_widenedTo H))
theorem J_X9_widenedTo {d : Nat} {v0 : Option Nm} {v1 : Int32} {v2 : Int32} {h : MH} {u : Nat} {K : Int64 → MH → Prop} (H : F_X9_widenedTo d v0 v1 v2 h 0 K) : iL (d + 5) u_X9_widenedTo [jR v0, jI v1, jI v2] h u (fun x h2 u2 => K x h2 ∧ u2 = u) := jiL (by decide +kernel) rfl (Nat.le_of_ble_eq_true rfl) rfl (E_X9_widenedTo H)
theorem dX1_takeTray_0 : decode cX1_takeTray 0 = .ok (.iconst 0, 1) := by decide +kernel
theorem dX1_takeTray_1 : decode cX1_takeTray 1 = .ok (.istore_n 3, 1) := by decide +kernel
theorem dX1_takeTray_2 : decode cX1_takeTray 2 = .ok (.iload_n 3, 1) := by decide +kernel
theorem dX1_takeTray_3 : decode cX1_takeTray 3 = .ok (.aload_n 2, 1) := by decide +kernel
theorem dX1_takeTray_4 : decode cX1_takeTray 4 = .ok (.getfield 19, 3) := by decide +kernel
theorem dX1_takeTray_7 : decode cX1_takeTray 7 = .ok (.if_icmp .ge 47, 3) := by decide +kernel
theorem dX1_takeTray_10 : decode cX1_takeTray 10 = .ok (.aload_n 1, 1) := by decide +kernel
theorem dX1_takeTray_11 : decode cX1_takeTray 11 = .ok (.iload_n 3, 1) := by decide +kernel
theorem dX1_takeTray_12 : decode cX1_takeTray 12 = .ok (.aload_n 2, 1) := by decide +kernel
theorem dX1_takeTray_13 : decode cX1_takeTray 13 = .ok (.getfield 25, 3) := by decide +kernel
theorem dX1_takeTray_16 : decode cX1_takeTray 16 = .ok (.iload_n 3, 1) := by decide +kernel
theorem dX1_takeTray_17 : decode cX1_takeTray 17 = .ok (.iaload, 1) := by decide +kernel
theorem dX1_takeTray_18 : decode cX1_takeTray 18 = .ok (.invokevirtual 29, 3) := by decide +kernel
theorem dX1_takeTray_21 : decode cX1_takeTray 21 = .ok (.istore 4, 2) := by decide +kernel
theorem dX1_takeTray_23 : decode cX1_takeTray 23 = .ok (.iload 4, 2) := by decide +kernel
theorem dX1_takeTray_25 : decode cX1_takeTray 25 = .ok (.ifCond .eq 6, 3) := by decide +kernel
theorem dX1_takeTray_28 : decode cX1_takeTray 28 = .ok (.iload 4, 2) := by decide +kernel
theorem dX1_takeTray_30 : decode cX1_takeTray 30 = .ok (.ireturn, 1) := by decide +kernel
theorem dX1_takeTray_31 : decode cX1_takeTray 31 = .ok (.aload_n 0, 1) := by decide +kernel
theorem dX1_takeTray_32 : decode cX1_takeTray 32 = .ok (.getfield 15, 3) := by decide +kernel
theorem dX1_takeTray_35 : decode cX1_takeTray 35 = .ok (.iload_n 3, 1) := by decide +kernel
theorem dX1_takeTray_36 : decode cX1_takeTray 36 = .ok (.aload_n 1, 1) := by decide +kernel
theorem dX1_takeTray_37 : decode cX1_takeTray 37 = .ok (.iload_n 3, 1) := by decide +kernel
theorem dX1_takeTray_38 : decode cX1_takeTray 38 = .ok (.aload_n 2, 1) := by decide +kernel
theorem dX1_takeTray_39 : decode cX1_takeTray 39 = .ok (.getfield 25, 3) := by decide +kernel
theorem dX1_takeTray_42 : decode cX1_takeTray 42 = .ok (.iload_n 3, 1) := by decide +kernel
theorem dX1_takeTray_43 : decode cX1_takeTray 43 = .ok (.iaload, 1) := by decide +kernel
theorem dX1_takeTray_44 : decode cX1_takeTray 44 = .ok (.invokevirtual 35, 3) := by decide +kernel
theorem dX1_takeTray_47 : decode cX1_takeTray 47 = .ok (.lastore, 1) := by decide +kernel
theorem dX1_takeTray_48 : decode cX1_takeTray 48 = .ok (.iinc 3 1, 3) := by decide +kernel
theorem dX1_takeTray_51 : decode cX1_takeTray 51 = .ok (.goto (-49), 3) := by decide +kernel
theorem dX1_takeTray_54 : decode cX1_takeTray 54 = .ok (.iconst 0, 1) := by decide +kernel
theorem dX1_takeTray_55 : decode cX1_takeTray 55 = .ok (.ireturn, 1) := by decide +kernel
def L_X1_takeTray_2 (d : Nat) (v0 : Option Nm) (v1 : Option Nm) (v2 : Option Nm) (v3 : Int32) (h : MH) (u : Nat) (Q : Int32 → MH → Prop) : Prop := T u_X1_takeTray (d + 6) 2 [some (jR v0), some (jR v1), some (jR v2), some (jI v3), none] [] h u (qI Q)
def F_X1_takeTray (d : Nat) (v0 : Option Nm) (v1 : Option Nm) (v2 : Option Nm) (h : MH) (u : Nat) (Q : Int32 → MH → Prop) : Prop :=
  L_X1_takeTray_2 d v0 v1 v2 0 h u Q
set_option maxRecDepth 20000 in
theorem E_X1_takeTray {d : Nat} {v0 : Option Nm} {v1 : Option Nm} {v2 : Option Nm} {h : MH} {u : Nat} {Q : Int32 → MH → Prop} (H : F_X1_takeTray d v0 v1 v2 h u Q) : T u_X1_takeTray (d + 6) 0 [some (jR v0), some (jR v1), some (jR v2), none, none] [] h u (qI Q) := by
  unfold F_X1_takeTray at H
  refine T_iconst (pc := 0) (v := 0) dX1_takeTray_0 (by decide) ?_
  refine T_istore_n (pc := 1) (ls2 := [some (jR v0), some (jR v1), some (jR v2), some (jI 0), none]) dX1_takeTray_1 rfl (Nat.le_of_ble_eq_true rfl) rfl ?_
  exact T.forget H ⟨rfl, rfl, rfl, rfl, trivial⟩
def F_X1_takeTray_2 (d : Nat) (v0 : Option Nm) (v1 : Option Nm) (v2 : Option Nm) (v3 : Int32) (h : MH) (u : Nat) (Q : Int32 → MH → Prop) : Prop :=
  gI h v2 2 4 fun x1 =>
  if x1 ≤ v3 then
    Q 0 h
  else
    gR h v2 2 2 fun x2 =>
    aI .int h x2 v3 fun x3 =>
    rc h v1 8 ∧ F_X9_faultFor (d + 4) v1 v3 x3 h 0 fun x4 h =>
    if x4 = 0 then
      gR h v0 1 1 fun x5 =>
      gR h v2 2 2 fun x6 =>
      aI .int h x6 v3 fun x7 =>
      rc h v1 8 ∧ F_X9_widenedTo d v1 v3 x7 h 0 fun x8 h =>
      sV .long h x5 v3 (jL x8) fun h =>
      L_X1_takeTray_2 d v0 v1 v2 (v3 + 1) h u Q
    else
      Q x4 h
set_option maxRecDepth 20000 in
theorem E_X1_takeTray_2 {d : Nat} {v0 : Option Nm} {v1 : Option Nm} {v2 : Option Nm} {v3 : Int32} {h : MH} {u : Nat} {Q : Int32 → MH → Prop} (H : F_X1_takeTray_2 d v0 v1 v2 v3 h u Q) : T u_X1_takeTray (d + 6) 2 [some (jR v0), some (jR v1), some (jR v2), some (jI v3), none] [] h u (qI Q) := by
  unfold F_X1_takeTray_2 at H
  refine T_iload_n (pc := 2) dX1_takeTray_2 rfl rfl ?_
  refine T_aload_n (pc := 3) dX1_takeTray_3 rfl rfl ?_
  refine T_gI (pc := 4) fa_X1_19 dX1_takeTray_4 (gI_mono (fun x1 H => ?_) H)
  refine T_icmp_ge (pc := 7) (tgt := 54) dX1_takeTray_7 (by decide) (fun hc => ?_) (fun hc => ?_)
  · rw [if_pos hc] at H
    refine T_iconst (pc := 54) (v := 0) dX1_takeTray_54 (by decide) ?_
    exact T_ireturn (pc := 55) rfl rfl dX1_takeTray_55 H
  · rw [if_neg hc] at H
    refine T_aload_n (pc := 10) dX1_takeTray_10 rfl rfl ?_
    refine T_iload_n (pc := 11) dX1_takeTray_11 rfl rfl ?_
    refine T_aload_n (pc := 12) dX1_takeTray_12 rfl rfl ?_
    refine T_gR (pc := 13) fa_X1_25 dX1_takeTray_13 (gR_mono (fun x2 H => ?_) H)
    refine T_iload_n (pc := 16) dX1_takeTray_16 rfl rfl ?_
    refine T_aI (pc := 17) dX1_takeTray_17 (aI_mono (fun x3 H => ?_) H)
    obtain ⟨H0, H⟩ := H
    refine T_iV (pc := 18) (ci := 8) (av := [jI v3, jI x3]) (rest := []) (o := v1) dX1_takeTray_18 mf_X9_faultFor c_3_149 c_3_150 c_3_151 rfl rfl (Nat.le_of_ble_eq_true rfl) rfl H0 (iI_k (iI_m0 (fun x4 h H => ?_) (J_X9_faultFor (d := (d + 4)) H)))
    refine T_istore (pc := 21) (ls2 := [some (jR v0), some (jR v1), some (jR v2), some (jI v3), some (jI x4)]) dX1_takeTray_21 (Nat.le_of_ble_eq_true rfl) rfl ?_
    refine T_iload (pc := 23) dX1_takeTray_23 rfl ?_
    refine T_if_eq (pc := 25) (tgt := 31) dX1_takeTray_25 (by decide) (fun hc => ?_) (fun hc => ?_)
    · rw [if_pos hc] at H
      refine T_aload_n (pc := 31) dX1_takeTray_31 rfl rfl ?_
      refine T_gR (pc := 32) fa_X1_15 dX1_takeTray_32 (gR_mono (fun x5 H => ?_) H)
      refine T_iload_n (pc := 35) dX1_takeTray_35 rfl rfl ?_
      refine T_aload_n (pc := 36) dX1_takeTray_36 rfl rfl ?_
      refine T_iload_n (pc := 37) dX1_takeTray_37 rfl rfl ?_
      refine T_aload_n (pc := 38) dX1_takeTray_38 rfl rfl ?_
      refine T_gR (pc := 39) fa_X1_25 dX1_takeTray_39 (gR_mono (fun x6 H => ?_) H)
      refine T_iload_n (pc := 42) dX1_takeTray_42 rfl rfl ?_
      refine T_aI (pc := 43) dX1_takeTray_43 (aI_mono (fun x7 H => ?_) H)
      obtain ⟨H0, H⟩ := H
      refine T_iV (pc := 44) (ci := 8) (av := [jI v3, jI x7]) (rest := [jI v3, jR x5]) (o := v1) dX1_takeTray_44 mf_X9_widenedTo c_3_155 c_3_156 c_3_157 rfl rfl (Nat.le_of_ble_eq_true rfl) rfl H0 (iL_k (iL_m0 (fun x8 h H => ?_) (J_X9_widenedTo (d := d) H)))
      refine T_sL (pc := 47) dX1_takeTray_47 (sV_mono (fun h H => ?_) H)
      refine T_iinc (pc := 48) (v := v3 + 1) (ls2 := [some (jR v0), some (jR v1), some (jR v2), some (jI (v3 + 1)), some (jI x4)]) dX1_takeTray_48 rfl rfl (Nat.le_of_ble_eq_true rfl) rfl ?_
      refine T_goto (pc := 51) (tgt := 2) dX1_takeTray_51 (by decide) ?_
      exact T.forget H ⟨rfl, rfl, rfl, rfl, trivial⟩
    · rw [if_neg hc] at H
      refine T_iload (pc := 28) dX1_takeTray_28 rfl ?_
      exact T_ireturn (pc := 30) rfl rfl dX1_takeTray_30 H
theorem I_X1_takeTray {d : Nat} {v0 : Option Nm} {v1 : Option Nm} {v2 : Option Nm} {h : MH} {u : Nat} {K : Int32 → MH → Nat → Prop} (u1 : Nat) (hu : u1 ≤ u) (H : F_X1_takeTray d v0 v1 v2 h u1 (fun x h2 => K x h2 (u - u1))) : iI (d + 6) u_X1_takeTray [jR v0, jR v1, jR v2] h u K := inv.of u1 hu (Ct.of (by decide +kernel) rfl (Nat.le_of_ble_eq_true rfl) rfl (E_X1_takeTray H))
theorem J_X1_takeTray {d : Nat} {v0 : Option Nm} {v1 : Option Nm} {v2 : Option Nm} {h : MH} {u : Nat} {K : Int32 → MH → Prop} (H : F_X1_takeTray d v0 v1 v2 h 0 K) : iI (d + 6) u_X1_takeTray [jR v0, jR v1, jR v2] h u (fun x h2 u2 => K x h2 ∧ u2 = u) := jiI (by decide +kernel) rfl (Nat.le_of_ble_eq_true rfl) rfl (E_X1_takeTray H)
theorem dX9_emptyAll_0 : decode cX9_emptyAll 0 = .ok (.iconst 0, 1) := by decide +kernel
theorem dX9_emptyAll_1 : decode cX9_emptyAll 1 = .ok (.istore_n 1, 1) := by decide +kernel
theorem dX9_emptyAll_2 : decode cX9_emptyAll 2 = .ok (.iload_n 1, 1) := by decide +kernel
theorem dX9_emptyAll_3 : decode cX9_emptyAll 3 = .ok (.bipush 6, 2) := by decide +kernel
theorem dX9_emptyAll_5 : decode cX9_emptyAll 5 = .ok (.if_icmp .ge 16, 3) := by decide +kernel
theorem dX9_emptyAll_8 : decode cX9_emptyAll 8 = .ok (.aload_n 0, 1) := by decide +kernel
theorem dX9_emptyAll_9 : decode cX9_emptyAll 9 = .ok (.getfield 9, 3) := by decide +kernel
theorem dX9_emptyAll_12 : decode cX9_emptyAll 12 = .ok (.iload_n 1, 1) := by decide +kernel
theorem dX9_emptyAll_13 : decode cX9_emptyAll 13 = .ok (.iconst (-1), 1) := by decide +kernel
theorem dX9_emptyAll_14 : decode cX9_emptyAll 14 = .ok (.iastore, 1) := by decide +kernel
theorem dX9_emptyAll_15 : decode cX9_emptyAll 15 = .ok (.iinc 1 1, 3) := by decide +kernel
theorem dX9_emptyAll_18 : decode cX9_emptyAll 18 = .ok (.goto (-16), 3) := by decide +kernel
theorem dX9_emptyAll_21 : decode cX9_emptyAll 21 = .ok (.return_, 1) := by decide +kernel
def L_X9_emptyAll_2 (d : Nat) (v0 : Option Nm) (v1 : Int32) (h : MH) (u : Nat) (Q : MH → Prop) : Prop := T u_X9_emptyAll d 2 [some (jR v0), some (jI v1)] [] h u (qV Q)
def F_X9_emptyAll (d : Nat) (v0 : Option Nm) (h : MH) (u : Nat) (Q : MH → Prop) : Prop :=
  L_X9_emptyAll_2 d v0 0 h u Q
set_option maxRecDepth 20000 in
theorem E_X9_emptyAll {d : Nat} {v0 : Option Nm} {h : MH} {u : Nat} {Q : MH → Prop} (H : F_X9_emptyAll d v0 h u Q) : T u_X9_emptyAll d 0 [some (jR v0), none] [] h u (qV Q) := by
  unfold F_X9_emptyAll at H
  refine T_iconst (pc := 0) (v := 0) dX9_emptyAll_0 (by decide) ?_
  refine T_istore_n (pc := 1) (ls2 := [some (jR v0), some (jI 0)]) dX9_emptyAll_1 rfl (Nat.le_of_ble_eq_true rfl) rfl ?_
  exact T.forget H ⟨rfl, rfl, trivial⟩
def F_X9_emptyAll_2 (d : Nat) (v0 : Option Nm) (v1 : Int32) (h : MH) (u : Nat) (Q : MH → Prop) : Prop :=
  if 6 ≤ v1 then
    Q h
  else
    gR h v0 8 0 fun x1 =>
    sV .int h x1 v1 (jI (-1)) fun h =>
    L_X9_emptyAll_2 d v0 (v1 + 1) h u Q
set_option maxRecDepth 20000 in
theorem E_X9_emptyAll_2 {d : Nat} {v0 : Option Nm} {v1 : Int32} {h : MH} {u : Nat} {Q : MH → Prop} (H : F_X9_emptyAll_2 d v0 v1 h u Q) : T u_X9_emptyAll d 2 [some (jR v0), some (jI v1)] [] h u (qV Q) := by
  unfold F_X9_emptyAll_2 at H
  refine T_iload_n (pc := 2) dX9_emptyAll_2 rfl rfl ?_
  refine T_bipush (pc := 3) (v := 6) dX9_emptyAll_3 (by decide) ?_
  refine T_icmp_ge (pc := 5) (tgt := 21) dX9_emptyAll_5 (by decide) (fun hc => ?_) (fun hc => ?_)
  · rw [if_pos hc] at H
    exact T_return (pc := 21) rfl dX9_emptyAll_21 H
  · rw [if_neg hc] at H
    refine T_aload_n (pc := 8) dX9_emptyAll_8 rfl rfl ?_
    refine T_gR (pc := 9) fa_X9_9 dX9_emptyAll_9 (gR_mono (fun x1 H => ?_) H)
    refine T_iload_n (pc := 12) dX9_emptyAll_12 rfl rfl ?_
    refine T_iconst (pc := 13) (v := (-1)) dX9_emptyAll_13 (by decide) ?_
    refine T_sI (pc := 14) dX9_emptyAll_14 (sV_mono (fun h H => ?_) H)
    refine T_iinc (pc := 15) (v := v1 + 1) (ls2 := [some (jR v0), some (jI (v1 + 1))]) dX9_emptyAll_15 rfl rfl (Nat.le_of_ble_eq_true rfl) rfl ?_
    refine T_goto (pc := 18) (tgt := 2) dX9_emptyAll_18 (by decide) ?_
    exact T.forget H ⟨rfl, rfl, trivial⟩
theorem I_X9_emptyAll {d : Nat} {v0 : Option Nm} {h : MH} {u : Nat} {K : MH → Nat → Prop} (u1 : Nat) (hu : u1 ≤ u) (H : F_X9_emptyAll d v0 h u1 (fun h2 => K h2 (u - u1))) : iV d u_X9_emptyAll [jR v0] h u K := inv.of u1 hu (Ct.of (by decide +kernel) rfl (Nat.le_of_ble_eq_true rfl) rfl (E_X9_emptyAll H))
theorem J_X9_emptyAll {d : Nat} {v0 : Option Nm} {h : MH} {u : Nat} {K : MH → Prop} (H : F_X9_emptyAll d v0 h 0 K) : iV d u_X9_emptyAll [jR v0] h u (fun h2 u2 => K h2 ∧ u2 = u) := jiV (by decide +kernel) rfl (Nat.le_of_ble_eq_true rfl) rfl (E_X9_emptyAll H)
theorem dX11_make_0 : decode cX11_make 0 = .ok (.aload_n 0, 1) := by decide +kernel
theorem dX11_make_1 : decode cX11_make 1 = .ok (.iload_n 1, 1) := by decide +kernel
theorem dX11_make_2 : decode cX11_make 2 = .ok (.invokevirtual 155, 3) := by decide +kernel
theorem dX11_make_5 : decode cX11_make 5 = .ok (.astore_n 2, 1) := by decide +kernel
theorem dX11_make_6 : decode cX11_make 6 = .ok (.aload_n 2, 1) := by decide +kernel
theorem dX11_make_7 : decode cX11_make 7 = .ok (.ifnonnull 5, 3) := by decide +kernel
theorem dX11_make_10 : decode cX11_make 10 = .ok (.iconst (-1), 1) := by decide +kernel
theorem dX11_make_11 : decode cX11_make 11 = .ok (.ireturn, 1) := by decide +kernel
theorem dX11_make_12 : decode cX11_make 12 = .ok (.aload_n 2, 1) := by decide +kernel
theorem dX11_make_13 : decode cX11_make 13 = .ok (.getfield 192, 3) := by decide +kernel
theorem dX11_make_16 : decode cX11_make 16 = .ok (.ifCond .eq 6, 3) := by decide +kernel
theorem dX11_make_19 : decode cX11_make 19 = .ok (.bipush (-3), 2) := by decide +kernel
theorem dX11_make_21 : decode cX11_make 21 = .ok (.ireturn, 1) := by decide +kernel
theorem dX11_make_22 : decode cX11_make 22 = .ok (.aload_n 0, 1) := by decide +kernel
theorem dX11_make_23 : decode cX11_make 23 = .ok (.getfield 12, 3) := by decide +kernel
theorem dX11_make_26 : decode cX11_make 26 = .ok (.iconst 1, 1) := by decide +kernel
theorem dX11_make_27 : decode cX11_make 27 = .ok (.invokevirtual 231, 3) := by decide +kernel
theorem dX11_make_30 : decode cX11_make 30 = .ok (.ifCond .ne 6, 3) := by decide +kernel
theorem dX11_make_33 : decode cX11_make 33 = .ok (.bipush (-4), 2) := by decide +kernel
theorem dX11_make_35 : decode cX11_make 35 = .ok (.ireturn, 1) := by decide +kernel
theorem dX11_make_36 : decode cX11_make 36 = .ok (.aload_n 0, 1) := by decide +kernel
theorem dX11_make_37 : decode cX11_make 37 = .ok (.aload_n 2, 1) := by decide +kernel
theorem dX11_make_38 : decode cX11_make 38 = .ok (.invokevirtual 234, 3) := by decide +kernel
theorem dX11_make_41 : decode cX11_make 41 = .ok (.aload_n 0, 1) := by decide +kernel
theorem dX11_make_42 : decode cX11_make 42 = .ok (.getfield 30, 3) := by decide +kernel
theorem dX11_make_45 : decode cX11_make 45 = .ok (.aload_n 0, 1) := by decide +kernel
theorem dX11_make_46 : decode cX11_make 46 = .ok (.getfield 21, 3) := by decide +kernel
theorem dX11_make_49 : decode cX11_make 49 = .ok (.aload_n 2, 1) := by decide +kernel
theorem dX11_make_50 : decode cX11_make 50 = .ok (.invokevirtual 165, 3) := by decide +kernel
theorem dX11_make_53 : decode cX11_make 53 = .ok (.invokevirtual 238, 3) := by decide +kernel
theorem dX11_make_56 : decode cX11_make 56 = .ok (.istore_n 3, 1) := by decide +kernel
theorem dX11_make_57 : decode cX11_make 57 = .ok (.iload_n 3, 1) := by decide +kernel
theorem dX11_make_58 : decode cX11_make 58 = .ok (.ifCond .eq 9, 3) := by decide +kernel
theorem dX11_make_61 : decode cX11_make 61 = .ok (.aload_n 0, 1) := by decide +kernel
theorem dX11_make_62 : decode cX11_make 62 = .ok (.iload_n 3, 1) := by decide +kernel
theorem dX11_make_63 : decode cX11_make 63 = .ok (.invokevirtual 72, 3) := by decide +kernel
theorem dX11_make_66 : decode cX11_make 66 = .ok (.ireturn, 1) := by decide +kernel
theorem dX11_make_67 : decode cX11_make 67 = .ok (.aload_n 0, 1) := by decide +kernel
theorem dX11_make_68 : decode cX11_make 68 = .ok (.aload_n 2, 1) := by decide +kernel
theorem dX11_make_69 : decode cX11_make 69 = .ok (.invokevirtual 242, 3) := by decide +kernel
theorem dX11_make_72 : decode cX11_make 72 = .ok (.istore 4, 2) := by decide +kernel
theorem dX11_make_74 : decode cX11_make 74 = .ok (.iload 4, 2) := by decide +kernel
theorem dX11_make_76 : decode cX11_make 76 = .ok (.ifCond .lt 10, 3) := by decide +kernel
theorem dX11_make_79 : decode cX11_make 79 = .ok (.aload_n 0, 1) := by decide +kernel
theorem dX11_make_80 : decode cX11_make 80 = .ok (.getfield 21, 3) := by decide +kernel
theorem dX11_make_83 : decode cX11_make 83 = .ok (.invokevirtual 246, 3) := by decide +kernel
theorem dX11_make_86 : decode cX11_make 86 = .ok (.iload 4, 2) := by decide +kernel
theorem dX11_make_88 : decode cX11_make 88 = .ok (.ireturn, 1) := by decide +kernel
def F_X11_make (d : Nat) (v0 : Option Nm) (v1 : Int32) (h : MH) (u : Nat) (Q : Int32 → MH → Prop) : Prop :=
  rc h v0 10 ∧ F_X11_findKind (d + 5) v0 v1 h 0 fun x1 h =>
  nl x1 (
    Q (-1) h) (
    gI h x1 3 1 fun x2 =>
    if x2 = 0 then
      gR h v0 10 0 fun x3 =>
      rc h x3 6 ∧ F_X7_hasRoomForValues (d + 6) x3 1 h 0 fun x4 h =>
      if x4 = 0 then
        Q (-4) h
      else
        rc h v0 10 ∧ iV (d + 6) u_X11_start [jR v0, jR x1] h u fun h u =>
        gR h v0 10 2 fun x6 =>
        gR h v0 10 1 fun x7 =>
        rc h x1 3 ∧ F_X3_newest (d + 6) x1 h 0 fun x8 h =>
        rc h x6 1 ∧ F_X1_takeTray d x6 x7 x8 h 0 fun x9 h =>
        if x9 = 0 then
          rc h v0 10 ∧ iI (d + 6) u_X11_finish [jR v0, jR x1] h u fun x10 h u =>
          if x10 < 0 then
            Q x10 h
          else
            gR h v0 10 1 fun x11 =>
            rc h x11 8 ∧ F_X9_emptyAll (d + 6) x11 h 0 fun h =>
            Q x10 h
        else
          rc h v0 10 ∧ F_X11_failed (d + 6) v0 x9 h 0 fun x13 h =>
          Q x13 h
    else
      Q (-3) h)
set_option maxRecDepth 20000 in
theorem E_X11_make {d : Nat} {v0 : Option Nm} {v1 : Int32} {h : MH} {u : Nat} {Q : Int32 → MH → Prop} (H : F_X11_make d v0 v1 h u Q) : T u_X11_make (d + 7) 0 [some (jR v0), some (jI v1), none, none, none] [] h u (qI Q) := by
  unfold F_X11_make at H
  refine T_aload_n (pc := 0) dX11_make_0 rfl rfl ?_
  refine T_iload_n (pc := 1) dX11_make_1 rfl rfl ?_
  obtain ⟨H0, H⟩ := H
  refine T_iV (pc := 2) (ci := 10) (av := [jI v1]) (rest := []) (o := v0) dX11_make_2 mf_X11_findKind c_2_199 c_2_201 pr_X11_findKind rfl rfl (Nat.le_of_ble_eq_true rfl) rfl H0 (iR_k (iR_m0 (fun x1 h H => ?_) (J_X11_findKind (d := (d + 5)) H)))
  refine T_astore_n (pc := 5) (ls2 := [some (jR v0), some (jI v1), some (jR x1), none, none]) dX11_make_5 rfl (Nat.le_of_ble_eq_true rfl) rfl ?_
  refine T_aload_n (pc := 6) dX11_make_6 rfl rfl ?_
  refine T_ifnonnull (pc := 7) (tgt := 12) dX11_make_7 (by decide) (fun ho => ?_) (fun n ho => ?_)
  · replace H := nl_n ho H
    refine T_iconst (pc := 10) (v := (-1)) dX11_make_10 (by decide) ?_
    exact T_ireturn (pc := 11) rfl rfl dX11_make_11 H
  · replace H := nl_s ho H
    refine T_aload_n (pc := 12) dX11_make_12 rfl rfl ?_
    refine T_gI (pc := 13) fa_X11_192 dX11_make_13 (gI_mono (fun x2 H => ?_) H)
    refine T_if_eq (pc := 16) (tgt := 22) dX11_make_16 (by decide) (fun hc => ?_) (fun hc => ?_)
    · rw [if_pos hc] at H
      refine T_aload_n (pc := 22) dX11_make_22 rfl rfl ?_
      refine T_gR (pc := 23) fa_X11_12 dX11_make_23 (gR_mono (fun x3 H => ?_) H)
      refine T_iconst (pc := 26) (v := 1) dX11_make_26 (by decide) ?_
      obtain ⟨H0, H⟩ := H
      refine T_iV (pc := 27) (ci := 6) (av := [jI 1]) (rest := []) (o := x3) dX11_make_27 mf_X7_hasRoomForValues c_3_5 c_3_6 c_3_7 rfl rfl (Nat.le_of_ble_eq_true rfl) rfl H0 (iI_k (iI_m0 (fun x4 h H => ?_) (J_X7_hasRoomForValues (d := (d + 6)) H)))
      refine T_if_ne (pc := 30) (tgt := 36) dX11_make_30 (by decide) (fun hc => ?_) (fun hc => ?_)
      · rw [if_neg hc] at H
        refine T_aload_n (pc := 36) dX11_make_36 rfl rfl ?_
        refine T_aload_n (pc := 37) dX11_make_37 rfl rfl ?_
        obtain ⟨H0, H⟩ := H
        refine T_iV (pc := 38) (ci := 10) (av := [jR x1]) (rest := []) (o := v0) dX11_make_38 mf_X11_start c_3_137 c_3_139 pr_X11_start rfl rfl (Nat.le_of_ble_eq_true rfl) rfl H0 (iV_k (iV_mono (fun h u H => ?_) H))
        refine T_aload_n (pc := 41) dX11_make_41 rfl rfl ?_
        refine T_gR (pc := 42) fa_X11_30 dX11_make_42 (gR_mono (fun x6 H => ?_) H)
        refine T_aload_n (pc := 45) dX11_make_45 rfl rfl ?_
        refine T_gR (pc := 46) fa_X11_21 dX11_make_46 (gR_mono (fun x7 H => ?_) H)
        refine T_aload_n (pc := 49) dX11_make_49 rfl rfl ?_
        obtain ⟨H0, H⟩ := H
        refine T_iV (pc := 50) (ci := 3) (av := []) (rest := [jR x7, jR x6]) (o := x1) dX11_make_50 mf_X3_newest c_2_213 c_2_214 c_2_215 rfl rfl (Nat.le_of_ble_eq_true rfl) rfl H0 (iR_k (iR_m0 (fun x8 h H => ?_) (J_X3_newest (d := (d + 6)) H)))
        obtain ⟨H0, H⟩ := H
        refine T_iV (pc := 53) (ci := 1) (av := [jR x7, jR x8]) (rest := []) (o := x6) dX11_make_53 mf_X1_takeTray c_3_145 c_3_146 c_3_147 rfl rfl (Nat.le_of_ble_eq_true rfl) rfl H0 (iI_k (iI_m0 (fun x9 h H => ?_) (J_X1_takeTray (d := d) H)))
        refine T_istore_n (pc := 56) (ls2 := [some (jR v0), some (jI v1), some (jR x1), some (jI x9), none]) dX11_make_56 rfl (Nat.le_of_ble_eq_true rfl) rfl ?_
        refine T_iload_n (pc := 57) dX11_make_57 rfl rfl ?_
        refine T_if_eq (pc := 58) (tgt := 67) dX11_make_58 (by decide) (fun hc => ?_) (fun hc => ?_)
        · rw [if_pos hc] at H
          refine T_aload_n (pc := 67) dX11_make_67 rfl rfl ?_
          refine T_aload_n (pc := 68) dX11_make_68 rfl rfl ?_
          obtain ⟨H0, H⟩ := H
          refine T_iV (pc := 69) (ci := 10) (av := [jR x1]) (rest := []) (o := v0) dX11_make_69 mf_X11_finish c_3_161 c_3_163 pr_X11_finish rfl rfl (Nat.le_of_ble_eq_true rfl) rfl H0 (iI_k (iI_mono (fun x10 h u H => ?_) H))
          refine T_istore (pc := 72) (ls2 := [some (jR v0), some (jI v1), some (jR x1), some (jI x9), some (jI x10)]) dX11_make_72 (Nat.le_of_ble_eq_true rfl) rfl ?_
          refine T_iload (pc := 74) dX11_make_74 rfl ?_
          refine T_if_lt (pc := 76) (tgt := 86) dX11_make_76 (by decide) (fun hc => ?_) (fun hc => ?_)
          · rw [if_pos hc] at H
            refine T_iload (pc := 86) dX11_make_86 rfl ?_
            exact T_ireturn (pc := 88) rfl rfl dX11_make_88 H
          · rw [if_neg hc] at H
            refine T_aload_n (pc := 79) dX11_make_79 rfl rfl ?_
            refine T_gR (pc := 80) fa_X11_21 dX11_make_80 (gR_mono (fun x11 H => ?_) H)
            obtain ⟨H0, H⟩ := H
            refine T_iV (pc := 83) (ci := 8) (av := []) (rest := []) (o := x11) dX11_make_83 mf_X9_emptyAll c_3_216 c_3_217 c_3_218 rfl rfl (Nat.le_of_ble_eq_true rfl) rfl H0 (iV_k (iV_m0 (fun h H => ?_) (J_X9_emptyAll (d := (d + 6)) H)))
            refine T_iload (pc := 86) dX11_make_86 rfl ?_
            exact T_ireturn (pc := 88) rfl rfl dX11_make_88 H
        · rw [if_neg hc] at H
          refine T_aload_n (pc := 61) dX11_make_61 rfl rfl ?_
          refine T_iload_n (pc := 62) dX11_make_62 rfl rfl ?_
          obtain ⟨H0, H⟩ := H
          refine T_iV (pc := 63) (ci := 10) (av := [jI x9]) (rest := []) (o := v0) dX11_make_63 mf_X11_failed c_1_196 c_1_198 pr_X11_failed rfl rfl (Nat.le_of_ble_eq_true rfl) rfl H0 (iI_k (iI_m0 (fun x13 h H => ?_) (J_X11_failed (d := (d + 6)) H)))
          exact T_ireturn (pc := 66) rfl rfl dX11_make_66 H
      · rw [if_pos hc] at H
        refine T_bipush (pc := 33) (v := (-4)) dX11_make_33 (by decide) ?_
        exact T_ireturn (pc := 35) rfl rfl dX11_make_35 H
    · rw [if_neg hc] at H
      refine T_bipush (pc := 19) (v := (-3)) dX11_make_19 (by decide) ?_
      exact T_ireturn (pc := 21) rfl rfl dX11_make_21 H
theorem I_X11_make {d : Nat} {v0 : Option Nm} {v1 : Int32} {h : MH} {u : Nat} {K : Int32 → MH → Nat → Prop} (u1 : Nat) (hu : u1 ≤ u) (H : F_X11_make d v0 v1 h u1 (fun x h2 => K x h2 (u - u1))) : iI (d + 7) u_X11_make [jR v0, jI v1] h u K := inv.of u1 hu (Ct.of (by decide +kernel) rfl (Nat.le_of_ble_eq_true rfl) rfl (E_X11_make H))
theorem dX11_match_0 : decode cX11_match 0 = .ok (.aload_n 0, 1) := by decide +kernel
theorem dX11_match_1 : decode cX11_match 1 = .ok (.getfield 12, 3) := by decide +kernel
theorem dX11_match_4 : decode cX11_match 4 = .ok (.iload_n 2, 1) := by decide +kernel
theorem dX11_match_5 : decode cX11_match 5 = .ok (.i2l, 1) := by decide +kernel
theorem dX11_match_6 : decode cX11_match 6 = .ok (.invokevirtual 118, 3) := by decide +kernel
theorem dX11_match_9 : decode cX11_match 9 = .ok (.astore_n 3, 1) := by decide +kernel
theorem dX11_match_10 : decode cX11_match 10 = .ok (.iload_n 1, 1) := by decide +kernel
theorem dX11_match_11 : decode cX11_match 11 = .ok (.iconst 0, 1) := by decide +kernel
theorem dX11_match_12 : decode cX11_match 12 = .ok (.aload_n 0, 1) := by decide +kernel
theorem dX11_match_13 : decode cX11_match 13 = .ok (.getfield 214, 3) := by decide +kernel
theorem dX11_match_16 : decode cX11_match 16 = .ok (.iconst 1, 1) := by decide +kernel
theorem dX11_match_17 : decode cX11_match 17 = .ok (.isub, 1) := by decide +kernel
theorem dX11_match_18 : decode cX11_match 18 = .ok (.invokestatic 64, 3) := by decide +kernel
theorem dX11_match_21 : decode cX11_match 21 = .ok (.ifCond .eq 7, 3) := by decide +kernel
theorem dX11_match_24 : decode cX11_match 24 = .ok (.aload_n 3, 1) := by decide +kernel
theorem dX11_match_25 : decode cX11_match 25 = .ok (.ifnonnull 5, 3) := by decide +kernel
theorem dX11_match_28 : decode cX11_match 28 = .ok (.iconst (-1), 1) := by decide +kernel
theorem dX11_match_29 : decode cX11_match 29 = .ok (.ireturn, 1) := by decide +kernel
theorem dX11_match_30 : decode cX11_match 30 = .ok (.iconst 1, 1) := by decide +kernel
theorem dX11_match_31 : decode cX11_match 31 = .ok (.aload_n 3, 1) := by decide +kernel
theorem dX11_match_32 : decode cX11_match 32 = .ok (.getfield 252, 3) := by decide +kernel
theorem dX11_match_35 : decode cX11_match 35 = .ok (.getfield 268, 3) := by decide +kernel
theorem dX11_match_38 : decode cX11_match 38 = .ok (.ishl, 1) := by decide +kernel
theorem dX11_match_39 : decode cX11_match 39 = .ok (.istore 4, 2) := by decide +kernel
theorem dX11_match_41 : decode cX11_match 41 = .ok (.aload_n 0, 1) := by decide +kernel
theorem dX11_match_42 : decode cX11_match 42 = .ok (.getfield 54, 3) := by decide +kernel
theorem dX11_match_45 : decode cX11_match 45 = .ok (.iload_n 1, 1) := by decide +kernel
theorem dX11_match_46 : decode cX11_match 46 = .ok (.iaload, 1) := by decide +kernel
theorem dX11_match_47 : decode cX11_match 47 = .ok (.iload 4, 2) := by decide +kernel
theorem dX11_match_49 : decode cX11_match 49 = .ok (.iand, 1) := by decide +kernel
theorem dX11_match_50 : decode cX11_match 50 = .ok (.ifCond .ne 20, 3) := by decide +kernel
theorem dX11_match_53 : decode cX11_match 53 = .ok (.aload_n 0, 1) := by decide +kernel
theorem dX11_match_54 : decode cX11_match 54 = .ok (.getfield 58, 3) := by decide +kernel
theorem dX11_match_57 : decode cX11_match 57 = .ok (.iload_n 1, 1) := by decide +kernel
theorem dX11_match_58 : decode cX11_match 58 = .ok (.baload, 1) := by decide +kernel
theorem dX11_match_59 : decode cX11_match 59 = .ok (.ifCond .eq 8, 3) := by decide +kernel
theorem dX11_match_62 : decode cX11_match 62 = .ok (.bipush (-3), 2) := by decide +kernel
theorem dX11_match_64 : decode cX11_match 64 = .ok (.goto 5, 3) := by decide +kernel
theorem dX11_match_67 : decode cX11_match 67 = .ok (.bipush (-5), 2) := by decide +kernel
theorem dX11_match_69 : decode cX11_match 69 = .ok (.ireturn, 1) := by decide +kernel
theorem dX11_match_70 : decode cX11_match 70 = .ok (.aload_n 0, 1) := by decide +kernel
theorem dX11_match_71 : decode cX11_match 71 = .ok (.getfield 54, 3) := by decide +kernel
theorem dX11_match_74 : decode cX11_match 74 = .ok (.iload_n 1, 1) := by decide +kernel
theorem dX11_match_75 : decode cX11_match 75 = .ok (.iaload, 1) := by decide +kernel
theorem dX11_match_76 : decode cX11_match 76 = .ok (.iload 4, 2) := by decide +kernel
theorem dX11_match_78 : decode cX11_match 78 = .ok (.iconst 1, 1) := by decide +kernel
theorem dX11_match_79 : decode cX11_match 79 = .ok (.isub, 1) := by decide +kernel
theorem dX11_match_80 : decode cX11_match 80 = .ok (.iand, 1) := by decide +kernel
theorem dX11_match_81 : decode cX11_match 81 = .ok (.invokestatic 287, 3) := by decide +kernel
theorem dX11_match_84 : decode cX11_match 84 = .ok (.ireturn, 1) := by decide +kernel
def F_X11_match (d : Nat) (v0 : Option Nm) (v1 : Int32) (v2 : Int32) (h : MH) (u : Nat) (Q : Int32 → MH → Prop) : Prop :=
  gR h v0 10 0 fun x1 =>
  rc h x1 6 ∧ F_X7_findValue d x1 (v2.toInt64) h 0 fun x2 h =>
  gI h v0 10 9 fun x3 =>
  F_X11_isWithin d v1 0 (x3 - 1) h 0 fun x4 h =>
  if x4 = 0 then
    Q (-1) h
  else
    nl x2 (
      Q (-1) h) (
      gR h x2 9 1 fun x5 =>
      gI h x5 3 0 fun x6 =>
      nm ((1 : Int32) <<< (x6 &&& 31)) fun x7 =>
      gR h v0 10 6 fun x8 =>
      aI .int h x8 v1 fun x9 =>
      if (x9 &&& x7) = 0 then
        gR h v0 10 7 fun x13 =>
        aI .boolean h x13 v1 fun x14 =>
        if x14 = 0 then
          Q (-5) h
        else
          Q (-3) h
      else
        gR h v0 10 6 fun x10 =>
        aI .int h x10 v1 fun x11 =>
        F_J6_bitCount_0f7a4 d (x11 &&& (x7 - 1)) h 0 fun x12 h =>
        Q x12 h)
set_option maxRecDepth 20000 in
theorem E_X11_match {d : Nat} {v0 : Option Nm} {v1 : Int32} {v2 : Int32} {h : MH} {u : Nat} {Q : Int32 → MH → Prop} (H : F_X11_match d v0 v1 v2 h u Q) : T u_X11_match (d + 1) 0 [some (jR v0), some (jI v1), some (jI v2), none, none] [] h u (qI Q) := by
  unfold F_X11_match at H
  refine T_aload_n (pc := 0) dX11_match_0 rfl rfl ?_
  refine T_gR (pc := 1) fa_X11_12 dX11_match_1 (gR_mono (fun x1 H => ?_) H)
  refine T_iload_n (pc := 4) dX11_match_4 rfl rfl ?_
  refine T_i2l (pc := 5) dX11_match_5 ?_
  obtain ⟨H0, H⟩ := H
  refine T_iV (pc := 6) (ci := 6) (av := [jL (v2.toInt64)]) (rest := []) (o := x1) dX11_match_6 mf_X7_findValue c_2_63 c_2_64 c_2_65 rfl rfl (Nat.le_of_ble_eq_true rfl) rfl H0 (iR_k (iR_m0 (fun x2 h H => ?_) (J_X7_findValue (d := d) H)))
  refine T_astore_n (pc := 9) (ls2 := [some (jR v0), some (jI v1), some (jI v2), some (jR x2), none]) dX11_match_9 rfl (Nat.le_of_ble_eq_true rfl) rfl ?_
  refine T_iload_n (pc := 10) dX11_match_10 rfl rfl ?_
  refine T_iconst (pc := 11) (v := 0) dX11_match_11 (by decide) ?_
  refine T_aload_n (pc := 12) dX11_match_12 rfl rfl ?_
  refine T_gI (pc := 13) fa_X11_214 dX11_match_13 (gI_mono (fun x3 H => ?_) H)
  refine T_iconst (pc := 16) (v := 1) dX11_match_16 (by decide) ?_
  refine T_isub (pc := 17) dX11_match_17 ?_
  refine T_invS (pc := 18) (av := [jI v1, jI 0, jI (x3 - 1)]) (rest := []) dX11_match_18 mf_X11_isWithin c_1_189 c_1_190 rfl (Nat.le_of_ble_eq_true rfl) rfl (iI_k (iI_m0 (fun x4 h H => ?_) (J_X11_isWithin (d := d) H)))
  refine T_if_eq (pc := 21) (tgt := 28) dX11_match_21 (by decide) (fun hc => ?_) (fun hc => ?_)
  · rw [if_pos hc] at H
    refine T_iconst (pc := 28) (v := (-1)) dX11_match_28 (by decide) ?_
    exact T_ireturn (pc := 29) rfl rfl dX11_match_29 H
  · rw [if_neg hc] at H
    refine T_aload_n (pc := 24) dX11_match_24 rfl rfl ?_
    refine T_ifnonnull (pc := 25) (tgt := 30) dX11_match_25 (by decide) (fun ho => ?_) (fun n ho => ?_)
    · replace H := nl_n ho H
      refine T_iconst (pc := 28) (v := (-1)) dX11_match_28 (by decide) ?_
      exact T_ireturn (pc := 29) rfl rfl dX11_match_29 H
    · replace H := nl_s ho H
      refine T_iconst (pc := 30) (v := 1) dX11_match_30 (by decide) ?_
      refine T_aload_n (pc := 31) dX11_match_31 rfl rfl ?_
      refine T_gR (pc := 32) fa_X11_252 dX11_match_32 (gR_mono (fun x5 H => ?_) H)
      refine T_gI (pc := 35) fa_X11_268 dX11_match_35 (gI_mono (fun x6 H => ?_) H)
      refine T_ishl (pc := 38) dX11_match_38 ?_
      refine T_istoreK (pc := 39) (i := 0) (I := .nop) (len := 2) (f := fun x7 => [some (jR v0), some (jI v1), some (jI v2), some (jR x2), some (jI x7)]) (fun x7 k => T_istore (pc := 39) dX11_match_39 (Nat.le_of_ble_eq_true rfl) rfl k) (nm_mono (fun x7 H => ?_) H)
      refine T_aload_n (pc := 41) dX11_match_41 rfl rfl ?_
      refine T_gR (pc := 42) fa_X11_54 dX11_match_42 (gR_mono (fun x8 H => ?_) H)
      refine T_iload_n (pc := 45) dX11_match_45 rfl rfl ?_
      refine T_aI (pc := 46) dX11_match_46 (aI_mono (fun x9 H => ?_) H)
      refine T_iload (pc := 47) dX11_match_47 rfl ?_
      refine T_iand (pc := 49) dX11_match_49 ?_
      refine T_if_ne (pc := 50) (tgt := 70) dX11_match_50 (by decide) (fun hc => ?_) (fun hc => ?_)
      · rw [if_neg hc] at H
        refine T_aload_n (pc := 70) dX11_match_70 rfl rfl ?_
        refine T_gR (pc := 71) fa_X11_54 dX11_match_71 (gR_mono (fun x10 H => ?_) H)
        refine T_iload_n (pc := 74) dX11_match_74 rfl rfl ?_
        refine T_aI (pc := 75) dX11_match_75 (aI_mono (fun x11 H => ?_) H)
        refine T_iload (pc := 76) dX11_match_76 rfl ?_
        refine T_iconst (pc := 78) (v := 1) dX11_match_78 (by decide) ?_
        refine T_isub (pc := 79) dX11_match_79 ?_
        refine T_iand (pc := 80) dX11_match_80 ?_
        refine T_invS (pc := 81) (av := [jI (x11 &&& (x7 - 1))]) (rest := []) dX11_match_81 mf_J6_bitCount_0f7a4 c_4_13 c_4_14 rfl (Nat.le_of_ble_eq_true rfl) rfl (iI_k (iI_m0 (fun x12 h H => ?_) (J_J6_bitCount_0f7a4 (d := d) H)))
        exact T_ireturn (pc := 84) rfl rfl dX11_match_84 H
      · rw [if_pos hc] at H
        refine T_aload_n (pc := 53) dX11_match_53 rfl rfl ?_
        refine T_gR (pc := 54) fa_X11_58 dX11_match_54 (gR_mono (fun x13 H => ?_) H)
        refine T_iload_n (pc := 57) dX11_match_57 rfl rfl ?_
        refine T_aZ (pc := 58) dX11_match_58 (aI_mono (fun x14 H => ?_) H)
        refine T_if_eq (pc := 59) (tgt := 67) dX11_match_59 (by decide) (fun hc => ?_) (fun hc => ?_)
        · rw [if_pos hc] at H
          refine T_bipush (pc := 67) (v := (-5)) dX11_match_67 (by decide) ?_
          exact T_ireturn (pc := 69) rfl rfl dX11_match_69 H
        · rw [if_neg hc] at H
          refine T_bipush (pc := 62) (v := (-3)) dX11_match_62 (by decide) ?_
          refine T_goto (pc := 64) (tgt := 69) dX11_match_64 (by decide) ?_
          exact T_ireturn (pc := 69) rfl rfl dX11_match_69 H
theorem I_X11_match {d : Nat} {v0 : Option Nm} {v1 : Int32} {v2 : Int32} {h : MH} {u : Nat} {K : Int32 → MH → Nat → Prop} (u1 : Nat) (hu : u1 ≤ u) (H : F_X11_match d v0 v1 v2 h u1 (fun x h2 => K x h2 (u - u1))) : iI (d + 1) u_X11_match [jR v0, jI v1, jI v2] h u K := inv.of u1 hu (Ct.of (by decide +kernel) rfl (Nat.le_of_ble_eq_true rfl) rfl (E_X11_match H))
theorem J_X11_match {d : Nat} {v0 : Option Nm} {v1 : Int32} {v2 : Int32} {h : MH} {u : Nat} {K : Int32 → MH → Prop} (H : F_X11_match d v0 v1 v2 h 0 K) : iI (d + 1) u_X11_match [jR v0, jI v1, jI v2] h u (fun x h2 u2 => K x h2 ∧ u2 = u) := jiI (by decide +kernel) rfl (Nat.le_of_ble_eq_true rfl) rfl (E_X11_match H)
theorem dX11_more_0 : decode cX11_more 0 = .ok (.aload_n 0, 1) := by decide +kernel
theorem dX11_more_1 : decode cX11_more 1 = .ok (.iload_n 1, 1) := by decide +kernel
theorem dX11_more_2 : decode cX11_more 2 = .ok (.invokevirtual 155, 3) := by decide +kernel
theorem dX11_more_5 : decode cX11_more 5 = .ok (.astore 4, 2) := by decide +kernel
theorem dX11_more_7 : decode cX11_more 7 = .ok (.aload 4, 2) := by decide +kernel
theorem dX11_more_9 : decode cX11_more 9 = .ok (.ifnonnull 5, 3) := by decide +kernel
theorem dX11_more_12 : decode cX11_more 12 = .ok (.iconst (-1), 1) := by decide +kernel
theorem dX11_more_13 : decode cX11_more 13 = .ok (.ireturn, 1) := by decide +kernel
theorem dX11_more_14 : decode cX11_more 14 = .ok (.iload_n 2, 1) := by decide +kernel
theorem dX11_more_15 : decode cX11_more 15 = .ok (.invokestatic 159, 3) := by decide +kernel
theorem dX11_more_18 : decode cX11_more 18 = .ok (.ifCond .eq 12, 3) := by decide +kernel
theorem dX11_more_21 : decode cX11_more 21 = .ok (.aload 4, 2) := by decide +kernel
theorem dX11_more_23 : decode cX11_more 23 = .ok (.iload_n 3, 1) := by decide +kernel
theorem dX11_more_24 : decode cX11_more 24 = .ok (.invokevirtual 162, 3) := by decide +kernel
theorem dX11_more_27 : decode cX11_more 27 = .ok (.ifCond .ne 6, 3) := by decide +kernel
theorem dX11_more_30 : decode cX11_more 30 = .ok (.bipush (-2), 2) := by decide +kernel
theorem dX11_more_32 : decode cX11_more 32 = .ok (.ireturn, 1) := by decide +kernel
theorem dX11_more_33 : decode cX11_more 33 = .ok (.aload 4, 2) := by decide +kernel
theorem dX11_more_35 : decode cX11_more 35 = .ok (.invokevirtual 165, 3) := by decide +kernel
theorem dX11_more_38 : decode cX11_more 38 = .ok (.astore 5, 2) := by decide +kernel
theorem dX11_more_40 : decode cX11_more 40 = .ok (.aload 4, 2) := by decide +kernel
theorem dX11_more_42 : decode cX11_more 42 = .ok (.getfield 169, 3) := by decide +kernel
theorem dX11_more_45 : decode cX11_more 45 = .ok (.ifCond .ne 13, 3) := by decide +kernel
theorem dX11_more_48 : decode cX11_more 48 = .ok (.aload 5, 2) := by decide +kernel
theorem dX11_more_50 : decode cX11_more 50 = .ok (.iload_n 2, 1) := by decide +kernel
theorem dX11_more_51 : decode cX11_more 51 = .ok (.invokevirtual 172, 3) := by decide +kernel
theorem dX11_more_54 : decode cX11_more 54 = .ok (.iconst (-1), 1) := by decide +kernel
theorem dX11_more_55 : decode cX11_more 55 = .ok (.if_icmp .eq 6, 3) := by decide +kernel
theorem dX11_more_58 : decode cX11_more 58 = .ok (.bipush (-3), 2) := by decide +kernel
theorem dX11_more_60 : decode cX11_more 60 = .ok (.ireturn, 1) := by decide +kernel
theorem dX11_more_61 : decode cX11_more 61 = .ok (.aload 5, 2) := by decide +kernel
theorem dX11_more_63 : decode cX11_more 63 = .ok (.invokevirtual 177, 3) := by decide +kernel
theorem dX11_more_66 : decode cX11_more 66 = .ok (.ifCond .eq 6, 3) := by decide +kernel
theorem dX11_more_69 : decode cX11_more 69 = .ok (.bipush (-4), 2) := by decide +kernel
theorem dX11_more_71 : decode cX11_more 71 = .ok (.ireturn, 1) := by decide +kernel
theorem dX11_more_72 : decode cX11_more 72 = .ok (.aload 5, 2) := by decide +kernel
theorem dX11_more_74 : decode cX11_more 74 = .ok (.iload_n 2, 1) := by decide +kernel
theorem dX11_more_75 : decode cX11_more 75 = .ok (.iload_n 3, 1) := by decide +kernel
theorem dX11_more_76 : decode cX11_more 76 = .ok (.invokevirtual 181, 3) := by decide +kernel
theorem dX11_more_79 : decode cX11_more 79 = .ok (.aload 5, 2) := by decide +kernel
theorem dX11_more_81 : decode cX11_more 81 = .ok (.getfield 185, 3) := by decide +kernel
theorem dX11_more_84 : decode cX11_more 84 = .ok (.ireturn, 1) := by decide +kernel
def F_X11_more (d : Nat) (v0 : Option Nm) (v1 : Int32) (v2 : Int32) (v3 : Int32) (h : MH) (u : Nat) (Q : Int32 → MH → Prop) : Prop :=
  rc h v0 10 ∧ F_X11_findKind d v0 v1 h 0 fun x1 h =>
  nl x1 (
    Q (-1) h) (
    F_X11_isLabel d v2 h 0 fun x2 h =>
    if x2 = 0 then
      Q (-2) h
    else
      rc h x1 3 ∧ F_X3_takesLane d x1 v3 h 0 fun x3 h =>
      if x3 = 0 then
        Q (-2) h
      else
        rc h x1 3 ∧ F_X3_newest (d + 1) x1 h 0 fun x4 h =>
        gI h x1 3 5 fun x5 =>
        if x5 = 0 then
          rc h x4 2 ∧ F_X2_find (d + 1) x4 v2 h 0 fun x6 h =>
          if x6 = (-1) then
            rc h x4 2 ∧ F_X2_isFull (d + 1) x4 h 0 fun x7 h =>
            if x7 = 0 then
              rc h x4 2 ∧ F_X2_add d x4 v2 v3 h 0 fun h =>
              gI h x4 2 4 fun x9 =>
              Q x9 h
            else
              Q (-4) h
          else
            Q (-3) h
        else
          Q (-3) h)
set_option maxRecDepth 20000 in
theorem E_X11_more {d : Nat} {v0 : Option Nm} {v1 : Int32} {v2 : Int32} {v3 : Int32} {h : MH} {u : Nat} {Q : Int32 → MH → Prop} (H : F_X11_more d v0 v1 v2 v3 h u Q) : T u_X11_more (d + 2) 0 [some (jR v0), some (jI v1), some (jI v2), some (jI v3), none, none] [] h u (qI Q) := by
  unfold F_X11_more at H
  refine T_aload_n (pc := 0) dX11_more_0 rfl rfl ?_
  refine T_iload_n (pc := 1) dX11_more_1 rfl rfl ?_
  obtain ⟨H0, H⟩ := H
  refine T_iV (pc := 2) (ci := 10) (av := [jI v1]) (rest := []) (o := v0) dX11_more_2 mf_X11_findKind c_2_199 c_2_201 pr_X11_findKind rfl rfl (Nat.le_of_ble_eq_true rfl) rfl H0 (iR_k (iR_m0 (fun x1 h H => ?_) (J_X11_findKind (d := d) H)))
  refine T_astore (pc := 5) (ls2 := [some (jR v0), some (jI v1), some (jI v2), some (jI v3), some (jR x1), none]) dX11_more_5 (Nat.le_of_ble_eq_true rfl) rfl ?_
  refine T_aload (pc := 7) dX11_more_7 rfl ?_
  refine T_ifnonnull (pc := 9) (tgt := 14) dX11_more_9 (by decide) (fun ho => ?_) (fun n ho => ?_)
  · replace H := nl_n ho H
    refine T_iconst (pc := 12) (v := (-1)) dX11_more_12 (by decide) ?_
    exact T_ireturn (pc := 13) rfl rfl dX11_more_13 H
  · replace H := nl_s ho H
    refine T_iload_n (pc := 14) dX11_more_14 rfl rfl ?_
    refine T_invS (pc := 15) (av := [jI v2]) (rest := []) dX11_more_15 mf_X11_isLabel c_2_203 c_2_204 rfl (Nat.le_of_ble_eq_true rfl) rfl (iI_k (iI_m0 (fun x2 h H => ?_) (J_X11_isLabel (d := d) H)))
    refine T_if_eq (pc := 18) (tgt := 30) dX11_more_18 (by decide) (fun hc => ?_) (fun hc => ?_)
    · rw [if_pos hc] at H
      refine T_bipush (pc := 30) (v := (-2)) dX11_more_30 (by decide) ?_
      exact T_ireturn (pc := 32) rfl rfl dX11_more_32 H
    · rw [if_neg hc] at H
      refine T_aload (pc := 21) dX11_more_21 rfl ?_
      refine T_iload_n (pc := 23) dX11_more_23 rfl rfl ?_
      obtain ⟨H0, H⟩ := H
      refine T_iV (pc := 24) (ci := 3) (av := [jI v3]) (rest := []) (o := x1) dX11_more_24 mf_X3_takesLane c_2_206 c_2_207 c_2_208 rfl rfl (Nat.le_of_ble_eq_true rfl) rfl H0 (iI_k (iI_m0 (fun x3 h H => ?_) (J_X3_takesLane (d := d) H)))
      refine T_if_ne (pc := 27) (tgt := 33) dX11_more_27 (by decide) (fun hc => ?_) (fun hc => ?_)
      · rw [if_neg hc] at H
        refine T_aload (pc := 33) dX11_more_33 rfl ?_
        obtain ⟨H0, H⟩ := H
        refine T_iV (pc := 35) (ci := 3) (av := []) (rest := []) (o := x1) dX11_more_35 mf_X3_newest c_2_213 c_2_214 c_2_215 rfl rfl (Nat.le_of_ble_eq_true rfl) rfl H0 (iR_k (iR_m0 (fun x4 h H => ?_) (J_X3_newest (d := (d + 1)) H)))
        refine T_astore (pc := 38) (ls2 := [some (jR v0), some (jI v1), some (jI v2), some (jI v3), some (jR x1), some (jR x4)]) dX11_more_38 (Nat.le_of_ble_eq_true rfl) rfl ?_
        refine T_aload (pc := 40) dX11_more_40 rfl ?_
        refine T_gI (pc := 42) fa_X11_169 dX11_more_42 (gI_mono (fun x5 H => ?_) H)
        refine T_if_ne (pc := 45) (tgt := 58) dX11_more_45 (by decide) (fun hc => ?_) (fun hc => ?_)
        · rw [if_neg hc] at H
          refine T_bipush (pc := 58) (v := (-3)) dX11_more_58 (by decide) ?_
          exact T_ireturn (pc := 60) rfl rfl dX11_more_60 H
        · rw [if_pos hc] at H
          refine T_aload (pc := 48) dX11_more_48 rfl ?_
          refine T_iload_n (pc := 50) dX11_more_50 rfl rfl ?_
          obtain ⟨H0, H⟩ := H
          refine T_iV (pc := 51) (ci := 2) (av := [jI v2]) (rest := []) (o := x4) dX11_more_51 mf_X2_find c_2_217 c_2_218 c_2_219 rfl rfl (Nat.le_of_ble_eq_true rfl) rfl H0 (iI_k (iI_m0 (fun x6 h H => ?_) (J_X2_find (d := (d + 1)) H)))
          refine T_iconst (pc := 54) (v := (-1)) dX11_more_54 (by decide) ?_
          refine T_icmp_eq (pc := 55) (tgt := 61) dX11_more_55 (by decide) (fun hc => ?_) (fun hc => ?_)
          · rw [if_pos hc] at H
            refine T_aload (pc := 61) dX11_more_61 rfl ?_
            obtain ⟨H0, H⟩ := H
            refine T_iV (pc := 63) (ci := 2) (av := []) (rest := []) (o := x4) dX11_more_63 mf_X2_isFull c_2_221 c_2_222 c_2_223 rfl rfl (Nat.le_of_ble_eq_true rfl) rfl H0 (iI_k (iI_m0 (fun x7 h H => ?_) (J_X2_isFull (d := (d + 1)) H)))
            refine T_if_eq (pc := 66) (tgt := 72) dX11_more_66 (by decide) (fun hc => ?_) (fun hc => ?_)
            · rw [if_pos hc] at H
              refine T_aload (pc := 72) dX11_more_72 rfl ?_
              refine T_iload_n (pc := 74) dX11_more_74 rfl rfl ?_
              refine T_iload_n (pc := 75) dX11_more_75 rfl rfl ?_
              obtain ⟨H0, H⟩ := H
              refine T_iV (pc := 76) (ci := 2) (av := [jI v2, jI v3]) (rest := []) (o := x4) dX11_more_76 mf_X2_add c_2_225 c_2_226 c_2_227 rfl rfl (Nat.le_of_ble_eq_true rfl) rfl H0 (iV_k (iV_m0 (fun h H => ?_) (J_X2_add (d := d) H)))
              refine T_aload (pc := 79) dX11_more_79 rfl ?_
              refine T_gI (pc := 81) fa_X11_185 dX11_more_81 (gI_mono (fun x9 H => ?_) H)
              exact T_ireturn (pc := 84) rfl rfl dX11_more_84 H
            · rw [if_neg hc] at H
              refine T_bipush (pc := 69) (v := (-4)) dX11_more_69 (by decide) ?_
              exact T_ireturn (pc := 71) rfl rfl dX11_more_71 H
          · rw [if_neg hc] at H
            refine T_bipush (pc := 58) (v := (-3)) dX11_more_58 (by decide) ?_
            exact T_ireturn (pc := 60) rfl rfl dX11_more_60 H
      · rw [if_pos hc] at H
        refine T_bipush (pc := 30) (v := (-2)) dX11_more_30 (by decide) ?_
        exact T_ireturn (pc := 32) rfl rfl dX11_more_32 H
theorem I_X11_more {d : Nat} {v0 : Option Nm} {v1 : Int32} {v2 : Int32} {v3 : Int32} {h : MH} {u : Nat} {K : Int32 → MH → Nat → Prop} (u1 : Nat) (hu : u1 ≤ u) (H : F_X11_more d v0 v1 v2 v3 h u1 (fun x h2 => K x h2 (u - u1))) : iI (d + 2) u_X11_more [jR v0, jI v1, jI v2, jI v3] h u K := inv.of u1 hu (Ct.of (by decide +kernel) rfl (Nat.le_of_ble_eq_true rfl) rfl (E_X11_more H))
theorem J_X11_more {d : Nat} {v0 : Option Nm} {v1 : Int32} {v2 : Int32} {v3 : Int32} {h : MH} {u : Nat} {K : Int32 → MH → Prop} (H : F_X11_more d v0 v1 v2 v3 h 0 K) : iI (d + 2) u_X11_more [jR v0, jI v1, jI v2, jI v3] h u (fun x h2 u2 => K x h2 ∧ u2 = u) := jiI (by decide +kernel) rfl (Nat.le_of_ble_eq_true rfl) rfl (E_X11_more H)
theorem dX11_named_0 : decode cX11_named 0 = .ok (.aload_n 0, 1) := by decide +kernel
theorem dX11_named_1 : decode cX11_named 1 = .ok (.iload_n 1, 1) := by decide +kernel
theorem dX11_named_2 : decode cX11_named 2 = .ok (.invokevirtual 155, 3) := by decide +kernel
theorem dX11_named_5 : decode cX11_named 5 = .ok (.astore_n 3, 1) := by decide +kernel
theorem dX11_named_6 : decode cX11_named 6 = .ok (.aload_n 3, 1) := by decide +kernel
theorem dX11_named_7 : decode cX11_named 7 = .ok (.ifnonnull 5, 3) := by decide +kernel
theorem dX11_named_10 : decode cX11_named 10 = .ok (.iconst (-1), 1) := by decide +kernel
theorem dX11_named_11 : decode cX11_named 11 = .ok (.ireturn, 1) := by decide +kernel
theorem dX11_named_12 : decode cX11_named 12 = .ok (.aload_n 3, 1) := by decide +kernel
theorem dX11_named_13 : decode cX11_named 13 = .ok (.invokevirtual 165, 3) := by decide +kernel
theorem dX11_named_16 : decode cX11_named 16 = .ok (.astore 4, 2) := by decide +kernel
theorem dX11_named_18 : decode cX11_named 18 = .ok (.aload 4, 2) := by decide +kernel
theorem dX11_named_20 : decode cX11_named 20 = .ok (.iload_n 2, 1) := by decide +kernel
theorem dX11_named_21 : decode cX11_named 21 = .ok (.invokevirtual 172, 3) := by decide +kernel
theorem dX11_named_24 : decode cX11_named 24 = .ok (.istore 5, 2) := by decide +kernel
theorem dX11_named_26 : decode cX11_named 26 = .ok (.aload_n 3, 1) := by decide +kernel
theorem dX11_named_27 : decode cX11_named 27 = .ok (.getfield 192, 3) := by decide +kernel
theorem dX11_named_30 : decode cX11_named 30 = .ok (.ifCond .eq 9, 3) := by decide +kernel
theorem dX11_named_33 : decode cX11_named 33 = .ok (.iload 5, 2) := by decide +kernel
theorem dX11_named_35 : decode cX11_named 35 = .ok (.iconst (-1), 1) := by decide +kernel
theorem dX11_named_36 : decode cX11_named 36 = .ok (.if_icmp .ne 6, 3) := by decide +kernel
theorem dX11_named_39 : decode cX11_named 39 = .ok (.bipush (-3), 2) := by decide +kernel
theorem dX11_named_41 : decode cX11_named 41 = .ok (.ireturn, 1) := by decide +kernel
theorem dX11_named_42 : decode cX11_named 42 = .ok (.aload_n 3, 1) := by decide +kernel
theorem dX11_named_43 : decode cX11_named 43 = .ok (.getfield 169, 3) := by decide +kernel
theorem dX11_named_46 : decode cX11_named 46 = .ok (.ifCond .ne 21, 3) := by decide +kernel
theorem dX11_named_49 : decode cX11_named 49 = .ok (.aload_n 0, 1) := by decide +kernel
theorem dX11_named_50 : decode cX11_named 50 = .ok (.getfield 12, 3) := by decide +kernel
theorem dX11_named_53 : decode cX11_named 53 = .ok (.aload 4, 2) := by decide +kernel
theorem dX11_named_55 : decode cX11_named 55 = .ok (.getfield 185, 3) := by decide +kernel
theorem dX11_named_58 : decode cX11_named 58 = .ok (.invokevirtual 231, 3) := by decide +kernel
theorem dX11_named_61 : decode cX11_named 61 = .ok (.ifCond .ne 6, 3) := by decide +kernel
theorem dX11_named_64 : decode cX11_named 64 = .ok (.bipush (-4), 2) := by decide +kernel
theorem dX11_named_66 : decode cX11_named 66 = .ok (.ireturn, 1) := by decide +kernel
theorem dX11_named_67 : decode cX11_named 67 = .ok (.aload_n 0, 1) := by decide +kernel
theorem dX11_named_68 : decode cX11_named 68 = .ok (.aload_n 3, 1) := by decide +kernel
theorem dX11_named_69 : decode cX11_named 69 = .ok (.invokevirtual 234, 3) := by decide +kernel
theorem dX11_named_72 : decode cX11_named 72 = .ok (.aload 4, 2) := by decide +kernel
theorem dX11_named_74 : decode cX11_named 74 = .ok (.getfield 249, 3) := by decide +kernel
theorem dX11_named_77 : decode cX11_named 77 = .ok (.iload 5, 2) := by decide +kernel
theorem dX11_named_79 : decode cX11_named 79 = .ok (.iaload, 1) := by decide +kernel
theorem dX11_named_80 : decode cX11_named 80 = .ok (.ireturn, 1) := by decide +kernel
def F_X11_named_67 (d : Nat) (v0 : Option Nm) (v3 : Option Nm) (v4 : Option Nm) (v5 : Int32) (h : MH) (u : Nat) (Q : Int32 → MH → Prop) : Prop :=
  rc h v0 10 ∧ iV (d + 1) u_X11_start [jR v0, jR v3] h u fun h u =>
  gR h v4 2 3 fun x2 =>
  aI .int h x2 v5 fun x3 =>
  Q x3 h
set_option maxRecDepth 20000 in
theorem E_X11_named_67 {d : Nat} {v0 : Option Nm} {v3 : Option Nm} {v4 : Option Nm} {v5 : Int32} {h : MH} {u : Nat} {Q : Int32 → MH → Prop} (H : F_X11_named_67 d v0 v3 v4 v5 h u Q) : T u_X11_named (d + 2) 67 [some (jR v0), none, none, some (jR v3), some (jR v4), some (jI v5)] [] h u (qI Q) := by
  unfold F_X11_named_67 at H
  refine T_aload_n (pc := 67) dX11_named_67 rfl rfl ?_
  refine T_aload_n (pc := 68) dX11_named_68 rfl rfl ?_
  obtain ⟨H0, H⟩ := H
  refine T_iV (pc := 69) (ci := 10) (av := [jR v3]) (rest := []) (o := v0) dX11_named_69 mf_X11_start c_3_137 c_3_139 pr_X11_start rfl rfl (Nat.le_of_ble_eq_true rfl) rfl H0 (iV_k (iV_mono (fun h u H => ?_) H))
  refine T_aload (pc := 72) dX11_named_72 rfl ?_
  refine T_gR (pc := 74) fa_X11_249 dX11_named_74 (gR_mono (fun x2 H => ?_) H)
  refine T_iload (pc := 77) dX11_named_77 rfl ?_
  refine T_aI (pc := 79) dX11_named_79 (aI_mono (fun x3 H => ?_) H)
  exact T_ireturn (pc := 80) rfl rfl dX11_named_80 H
def F_X11_named (d : Nat) (v0 : Option Nm) (v1 : Int32) (v2 : Int32) (h : MH) (u : Nat) (Q : Int32 → MH → Prop) : Prop :=
  rc h v0 10 ∧ F_X11_findKind d v0 v1 h 0 fun x1 h =>
  nl x1 (
    Q (-1) h) (
    rc h x1 3 ∧ F_X3_newest (d + 1) x1 h 0 fun x2 h =>
    rc h x2 2 ∧ F_X2_find (d + 1) x2 v2 h 0 fun x3 h =>
    gI h x1 3 1 fun x4 =>
    if x4 = 0 then
      Q (-3) h
    else
      if x3 = (-1) then
        Q (-3) h
      else
        gI h x1 3 5 fun x5 =>
        if x5 = 0 then
          gR h v0 10 0 fun x6 =>
          gI h x2 2 4 fun x7 =>
          rc h x6 6 ∧ F_X7_hasRoomForValues (d + 1) x6 x7 h 0 fun x8 h =>
          if x8 = 0 then
            Q (-4) h
          else
            F_X11_named_67 d v0 x1 x2 x3 h u Q
        else
          F_X11_named_67 d v0 x1 x2 x3 h u Q)
set_option maxRecDepth 20000 in
theorem E_X11_named {d : Nat} {v0 : Option Nm} {v1 : Int32} {v2 : Int32} {h : MH} {u : Nat} {Q : Int32 → MH → Prop} (H : F_X11_named d v0 v1 v2 h u Q) : T u_X11_named (d + 2) 0 [some (jR v0), some (jI v1), some (jI v2), none, none, none] [] h u (qI Q) := by
  unfold F_X11_named at H
  refine T_aload_n (pc := 0) dX11_named_0 rfl rfl ?_
  refine T_iload_n (pc := 1) dX11_named_1 rfl rfl ?_
  obtain ⟨H0, H⟩ := H
  refine T_iV (pc := 2) (ci := 10) (av := [jI v1]) (rest := []) (o := v0) dX11_named_2 mf_X11_findKind c_2_199 c_2_201 pr_X11_findKind rfl rfl (Nat.le_of_ble_eq_true rfl) rfl H0 (iR_k (iR_m0 (fun x1 h H => ?_) (J_X11_findKind (d := d) H)))
  refine T_astore_n (pc := 5) (ls2 := [some (jR v0), some (jI v1), some (jI v2), some (jR x1), none, none]) dX11_named_5 rfl (Nat.le_of_ble_eq_true rfl) rfl ?_
  refine T_aload_n (pc := 6) dX11_named_6 rfl rfl ?_
  refine T_ifnonnull (pc := 7) (tgt := 12) dX11_named_7 (by decide) (fun ho => ?_) (fun n ho => ?_)
  · replace H := nl_n ho H
    refine T_iconst (pc := 10) (v := (-1)) dX11_named_10 (by decide) ?_
    exact T_ireturn (pc := 11) rfl rfl dX11_named_11 H
  · replace H := nl_s ho H
    refine T_aload_n (pc := 12) dX11_named_12 rfl rfl ?_
    obtain ⟨H0, H⟩ := H
    refine T_iV (pc := 13) (ci := 3) (av := []) (rest := []) (o := x1) dX11_named_13 mf_X3_newest c_2_213 c_2_214 c_2_215 rfl rfl (Nat.le_of_ble_eq_true rfl) rfl H0 (iR_k (iR_m0 (fun x2 h H => ?_) (J_X3_newest (d := (d + 1)) H)))
    refine T_astore (pc := 16) (ls2 := [some (jR v0), some (jI v1), some (jI v2), some (jR x1), some (jR x2), none]) dX11_named_16 (Nat.le_of_ble_eq_true rfl) rfl ?_
    refine T_aload (pc := 18) dX11_named_18 rfl ?_
    refine T_iload_n (pc := 20) dX11_named_20 rfl rfl ?_
    obtain ⟨H0, H⟩ := H
    refine T_iV (pc := 21) (ci := 2) (av := [jI v2]) (rest := []) (o := x2) dX11_named_21 mf_X2_find c_2_217 c_2_218 c_2_219 rfl rfl (Nat.le_of_ble_eq_true rfl) rfl H0 (iI_k (iI_m0 (fun x3 h H => ?_) (J_X2_find (d := (d + 1)) H)))
    refine T_istore (pc := 24) (ls2 := [some (jR v0), some (jI v1), some (jI v2), some (jR x1), some (jR x2), some (jI x3)]) dX11_named_24 (Nat.le_of_ble_eq_true rfl) rfl ?_
    refine T_aload_n (pc := 26) dX11_named_26 rfl rfl ?_
    refine T_gI (pc := 27) fa_X11_192 dX11_named_27 (gI_mono (fun x4 H => ?_) H)
    refine T_if_eq (pc := 30) (tgt := 39) dX11_named_30 (by decide) (fun hc => ?_) (fun hc => ?_)
    · rw [if_pos hc] at H
      refine T_bipush (pc := 39) (v := (-3)) dX11_named_39 (by decide) ?_
      exact T_ireturn (pc := 41) rfl rfl dX11_named_41 H
    · rw [if_neg hc] at H
      refine T_iload (pc := 33) dX11_named_33 rfl ?_
      refine T_iconst (pc := 35) (v := (-1)) dX11_named_35 (by decide) ?_
      refine T_icmp_ne (pc := 36) (tgt := 42) dX11_named_36 (by decide) (fun hc => ?_) (fun hc => ?_)
      · rw [if_neg hc] at H
        refine T_aload_n (pc := 42) dX11_named_42 rfl rfl ?_
        refine T_gI (pc := 43) fa_X11_169 dX11_named_43 (gI_mono (fun x5 H => ?_) H)
        refine T_if_ne (pc := 46) (tgt := 67) dX11_named_46 (by decide) (fun hc => ?_) (fun hc => ?_)
        · rw [if_neg hc] at H
          exact T.forget (E_X11_named_67 H) ⟨rfl, rfl, rfl, rfl, trivial⟩
        · rw [if_pos hc] at H
          refine T_aload_n (pc := 49) dX11_named_49 rfl rfl ?_
          refine T_gR (pc := 50) fa_X11_12 dX11_named_50 (gR_mono (fun x6 H => ?_) H)
          refine T_aload (pc := 53) dX11_named_53 rfl ?_
          refine T_gI (pc := 55) fa_X11_185 dX11_named_55 (gI_mono (fun x7 H => ?_) H)
          obtain ⟨H0, H⟩ := H
          refine T_iV (pc := 58) (ci := 6) (av := [jI x7]) (rest := []) (o := x6) dX11_named_58 mf_X7_hasRoomForValues c_3_5 c_3_6 c_3_7 rfl rfl (Nat.le_of_ble_eq_true rfl) rfl H0 (iI_k (iI_m0 (fun x8 h H => ?_) (J_X7_hasRoomForValues (d := (d + 1)) H)))
          refine T_if_ne (pc := 61) (tgt := 67) dX11_named_61 (by decide) (fun hc => ?_) (fun hc => ?_)
          · rw [if_neg hc] at H
            exact T.forget (E_X11_named_67 H) ⟨rfl, rfl, rfl, rfl, trivial⟩
          · rw [if_pos hc] at H
            refine T_bipush (pc := 64) (v := (-4)) dX11_named_64 (by decide) ?_
            exact T_ireturn (pc := 66) rfl rfl dX11_named_66 H
      · rw [if_pos hc] at H
        refine T_bipush (pc := 39) (v := (-3)) dX11_named_39 (by decide) ?_
        exact T_ireturn (pc := 41) rfl rfl dX11_named_41 H
theorem I_X11_named {d : Nat} {v0 : Option Nm} {v1 : Int32} {v2 : Int32} {h : MH} {u : Nat} {K : Int32 → MH → Nat → Prop} (u1 : Nat) (hu : u1 ≤ u) (H : F_X11_named d v0 v1 v2 h u1 (fun x h2 => K x h2 (u - u1))) : iI (d + 2) u_X11_named [jR v0, jI v1, jI v2] h u K := inv.of u1 hu (Ct.of (by decide +kernel) rfl (Nat.le_of_ble_eq_true rfl) rfl (E_X11_named H))
theorem dX11_newKind_0 : decode cX11_newKind 0 = .ok (.aload_n 0, 1) := by decide +kernel
theorem dX11_newKind_1 : decode cX11_newKind 1 = .ok (.getfield 211, 3) := by decide +kernel
theorem dX11_newKind_4 : decode cX11_newKind 4 = .ok (.bipush 16, 2) := by decide +kernel
theorem dX11_newKind_6 : decode cX11_newKind 6 = .ok (.if_icmp .lt 6, 3) := by decide +kernel
theorem dX11_newKind_9 : decode cX11_newKind 9 = .ok (.bipush (-4), 2) := by decide +kernel
theorem dX11_newKind_11 : decode cX11_newKind 11 = .ok (.ireturn, 1) := by decide +kernel
theorem dX11_newKind_12 : decode cX11_newKind 12 = .ok (.aload_n 0, 1) := by decide +kernel
theorem dX11_newKind_13 : decode cX11_newKind 13 = .ok (.getfield 50, 3) := by decide +kernel
theorem dX11_newKind_16 : decode cX11_newKind 16 = .ok (.aload_n 0, 1) := by decide +kernel
theorem dX11_newKind_17 : decode cX11_newKind 17 = .ok (.getfield 211, 3) := by decide +kernel
theorem dX11_newKind_20 : decode cX11_newKind 20 = .ok (.new 48, 3) := by decide +kernel
theorem dX11_newKind_23 : decode cX11_newKind 23 = .ok (.dup, 1) := by decide +kernel
theorem dX11_newKind_24 : decode cX11_newKind 24 = .ok (.aload_n 0, 1) := by decide +kernel
theorem dX11_newKind_25 : decode cX11_newKind 25 = .ok (.getfield 211, 3) := by decide +kernel
theorem dX11_newKind_28 : decode cX11_newKind 28 = .ok (.iload_n 1, 1) := by decide +kernel
theorem dX11_newKind_29 : decode cX11_newKind 29 = .ok (.iload_n 2, 1) := by decide +kernel
theorem dX11_newKind_30 : decode cX11_newKind 30 = .ok (.invokespecial 351, 3) := by decide +kernel
theorem dX11_newKind_33 : decode cX11_newKind 33 = .ok (.aastore, 1) := by decide +kernel
theorem dX11_newKind_34 : decode cX11_newKind 34 = .ok (.aload_n 0, 1) := by decide +kernel
theorem dX11_newKind_35 : decode cX11_newKind 35 = .ok (.dup, 1) := by decide +kernel
theorem dX11_newKind_36 : decode cX11_newKind 36 = .ok (.getfield 211, 3) := by decide +kernel
theorem dX11_newKind_39 : decode cX11_newKind 39 = .ok (.iconst 1, 1) := by decide +kernel
theorem dX11_newKind_40 : decode cX11_newKind 40 = .ok (.iadd, 1) := by decide +kernel
theorem dX11_newKind_41 : decode cX11_newKind 41 = .ok (.putfield 211, 3) := by decide +kernel
theorem dX11_newKind_44 : decode cX11_newKind 44 = .ok (.aload_n 0, 1) := by decide +kernel
theorem dX11_newKind_45 : decode cX11_newKind 45 = .ok (.getfield 211, 3) := by decide +kernel
theorem dX11_newKind_48 : decode cX11_newKind 48 = .ok (.iconst 1, 1) := by decide +kernel
theorem dX11_newKind_49 : decode cX11_newKind 49 = .ok (.isub, 1) := by decide +kernel
theorem dX11_newKind_50 : decode cX11_newKind 50 = .ok (.ireturn, 1) := by decide +kernel
def F_X11_newKind (d : Nat) (v0 : Option Nm) (v1 : Int32) (v2 : Int32) (h : MH) (u : Nat) (Q : Int32 → MH → Prop) : Prop :=
  gI h v0 10 8 fun x1 =>
  if x1 < 16 then
    gR h v0 10 5 fun x2 =>
    gI h v0 10 8 fun x3 =>
    nO h u 3 [jI 0, jI 0, jI 0, jR none, jI 0, jI 0, jI 0] fun x4 h u =>
    gI h v0 10 8 fun x5 =>
    iV d u_X3_init [jR (some x4), jI x5, jI v1, jI v2] h u fun h u =>
    rc h (some x4) 3 ∧ sV (.object "RecordBridge$Kind") h x2 x3 (jR (some x4)) fun h =>
    gI h v0 10 8 fun x7 =>
    pV h v0 10 8 (jI (x7 + 1)) fun h =>
    gI h v0 10 8 fun x8 =>
    Q (x8 - 1) h
  else
    Q (-4) h
set_option maxRecDepth 20000 in
theorem E_X11_newKind {d : Nat} {v0 : Option Nm} {v1 : Int32} {v2 : Int32} {h : MH} {u : Nat} {Q : Int32 → MH → Prop} (H : F_X11_newKind d v0 v1 v2 h u Q) : T u_X11_newKind (d + 1) 0 [some (jR v0), some (jI v1), some (jI v2)] [] h u (qI Q) := by
  unfold F_X11_newKind at H
  refine T_aload_n (pc := 0) dX11_newKind_0 rfl rfl ?_
  refine T_gI (pc := 1) fa_X11_211 dX11_newKind_1 (gI_mono (fun x1 H => ?_) H)
  refine T_bipush (pc := 4) (v := 16) dX11_newKind_4 (by decide) ?_
  refine T_icmp_lt (pc := 6) (tgt := 12) dX11_newKind_6 (by decide) (fun hc => ?_) (fun hc => ?_)
  · rw [if_pos hc] at H
    refine T_aload_n (pc := 12) dX11_newKind_12 rfl rfl ?_
    refine T_gR (pc := 13) fa_X11_50 dX11_newKind_13 (gR_mono (fun x2 H => ?_) H)
    refine T_aload_n (pc := 16) dX11_newKind_16 rfl rfl ?_
    refine T_gI (pc := 17) fa_X11_211 dX11_newKind_17 (gI_mono (fun x3 H => ?_) H)
    refine T_nO (pc := 20) nf_X11_48 dX11_newKind_20 (nO_mono (fun x4 h u H => ?_) H)
    refine T_dup (pc := 23) rfl dX11_newKind_23 ?_
    refine T_aload_n (pc := 24) dX11_newKind_24 rfl rfl ?_
    refine T_gI (pc := 25) fa_X11_211 dX11_newKind_25 (gI_mono (fun x5 H => ?_) H)
    refine T_iload_n (pc := 28) dX11_newKind_28 rfl rfl ?_
    refine T_iload_n (pc := 29) dX11_newKind_29 rfl rfl ?_
    refine T_invI (pc := 30) (av := [jI x5, jI v1, jI v2]) (rest := [jR (some x4), jI x3, jR x2]) dX11_newKind_30 mf_X3_init rfl rfl c_2_120 c_2_121 rfl (Nat.le_of_ble_eq_true rfl) rfl (iV_k (iV_mono (fun h u H => ?_) H))
    refine T_sR (pc := 33) (ci := 3) dX11_newKind_33 rfl ⟨H.1, sV_mono (fun h H => ?_) H.2⟩
    refine T_aload_n (pc := 34) dX11_newKind_34 rfl rfl ?_
    refine T_dup (pc := 35) rfl dX11_newKind_35 ?_
    refine T_gI (pc := 36) fa_X11_211 dX11_newKind_36 (gI_mono (fun x7 H => ?_) H)
    refine T_iconst (pc := 39) (v := 1) dX11_newKind_39 (by decide) ?_
    refine T_iadd (pc := 40) dX11_newKind_40 ?_
    refine T_pV (pc := 41) fa_X11_211 dX11_newKind_41 trivial (pV_mono (fun h H => ?_) H)
    refine T_aload_n (pc := 44) dX11_newKind_44 rfl rfl ?_
    refine T_gI (pc := 45) fa_X11_211 dX11_newKind_45 (gI_mono (fun x8 H => ?_) H)
    refine T_iconst (pc := 48) (v := 1) dX11_newKind_48 (by decide) ?_
    refine T_isub (pc := 49) dX11_newKind_49 ?_
    exact T_ireturn (pc := 50) rfl rfl dX11_newKind_50 H
  · rw [if_neg hc] at H
    refine T_bipush (pc := 9) (v := (-4)) dX11_newKind_9 (by decide) ?_
    exact T_ireturn (pc := 11) rfl rfl dX11_newKind_11 H
theorem I_X11_newKind {d : Nat} {v0 : Option Nm} {v1 : Int32} {v2 : Int32} {h : MH} {u : Nat} {K : Int32 → MH → Nat → Prop} (u1 : Nat) (hu : u1 ≤ u) (H : F_X11_newKind d v0 v1 v2 h u1 (fun x h2 => K x h2 (u - u1))) : iI (d + 1) u_X11_newKind [jR v0, jI v1, jI v2] h u K := inv.of u1 hu (Ct.of (by decide +kernel) rfl (Nat.le_of_ble_eq_true rfl) rfl (E_X11_newKind H))
theorem dX11_of_0 : decode cX11_of 0 = .ok (.aload_n 0, 1) := by decide +kernel
theorem dX11_of_1 : decode cX11_of 1 = .ok (.getfield 12, 3) := by decide +kernel
theorem dX11_of_4 : decode cX11_of 4 = .ok (.iload_n 1, 1) := by decide +kernel
theorem dX11_of_5 : decode cX11_of 5 = .ok (.i2l, 1) := by decide +kernel
theorem dX11_of_6 : decode cX11_of 6 = .ok (.invokevirtual 118, 3) := by decide +kernel
theorem dX11_of_9 : decode cX11_of 9 = .ok (.astore_n 3, 1) := by decide +kernel
theorem dX11_of_10 : decode cX11_of 10 = .ok (.aload_n 3, 1) := by decide +kernel
theorem dX11_of_11 : decode cX11_of 11 = .ok (.ifnonnull 5, 3) := by decide +kernel
theorem dX11_of_14 : decode cX11_of 14 = .ok (.iconst (-1), 1) := by decide +kernel
theorem dX11_of_15 : decode cX11_of 15 = .ok (.ireturn, 1) := by decide +kernel
theorem dX11_of_16 : decode cX11_of 16 = .ok (.iload_n 2, 1) := by decide +kernel
theorem dX11_of_17 : decode cX11_of 17 = .ok (.tableswitch 75 0 5 #[39, 47, 55, 60, 65, 70], 39) := by decide +kernel
theorem dX11_of_56 : decode cX11_of 56 = .ok (.aload_n 3, 1) := by decide +kernel
theorem dX11_of_57 : decode cX11_of 57 = .ok (.getfield 252, 3) := by decide +kernel
theorem dX11_of_60 : decode cX11_of 60 = .ok (.getfield 268, 3) := by decide +kernel
theorem dX11_of_63 : decode cX11_of 63 = .ok (.ireturn, 1) := by decide +kernel
theorem dX11_of_64 : decode cX11_of 64 = .ok (.aload_n 3, 1) := by decide +kernel
theorem dX11_of_65 : decode cX11_of 65 = .ok (.getfield 264, 3) := by decide +kernel
theorem dX11_of_68 : decode cX11_of 68 = .ok (.getfield 210, 3) := by decide +kernel
theorem dX11_of_71 : decode cX11_of 71 = .ok (.ireturn, 1) := by decide +kernel
theorem dX11_of_72 : decode cX11_of 72 = .ok (.aload_n 3, 1) := by decide +kernel
theorem dX11_of_73 : decode cX11_of 73 = .ok (.getfield 269, 3) := by decide +kernel
theorem dX11_of_76 : decode cX11_of 76 = .ok (.ireturn, 1) := by decide +kernel
theorem dX11_of_77 : decode cX11_of 77 = .ok (.aload_n 3, 1) := by decide +kernel
theorem dX11_of_78 : decode cX11_of 78 = .ok (.getfield 272, 3) := by decide +kernel
theorem dX11_of_81 : decode cX11_of 81 = .ok (.ireturn, 1) := by decide +kernel
theorem dX11_of_82 : decode cX11_of 82 = .ok (.aload_n 3, 1) := by decide +kernel
theorem dX11_of_83 : decode cX11_of 83 = .ok (.getfield 275, 3) := by decide +kernel
theorem dX11_of_86 : decode cX11_of 86 = .ok (.ireturn, 1) := by decide +kernel
theorem dX11_of_87 : decode cX11_of 87 = .ok (.aload_n 3, 1) := by decide +kernel
theorem dX11_of_88 : decode cX11_of 88 = .ok (.getfield 278, 3) := by decide +kernel
theorem dX11_of_91 : decode cX11_of 91 = .ok (.ireturn, 1) := by decide +kernel
theorem dX11_of_92 : decode cX11_of 92 = .ok (.bipush (-2), 2) := by decide +kernel
theorem dX11_of_94 : decode cX11_of 94 = .ok (.ireturn, 1) := by decide +kernel
def F_X11_of (d : Nat) (v0 : Option Nm) (v1 : Int32) (v2 : Int32) (h : MH) (u : Nat) (Q : Int32 → MH → Prop) : Prop :=
  gR h v0 10 0 fun x1 =>
  rc h x1 6 ∧ F_X7_findValue d x1 (v1.toInt64) h 0 fun x2 h =>
  nl x2 (
    Q (-1) h) (
    if v2 = 0 then
      gR h x2 9 1 fun x3 =>
      gI h x3 3 0 fun x4 =>
      Q x4 h
    else if v2 = 1 then
      gR h x2 9 2 fun x5 =>
      gI h x5 2 0 fun x6 =>
      Q x6 h
    else if v2 = 2 then
      gI h x2 9 6 fun x7 =>
      Q x7 h
    else if v2 = 3 then
      gI h x2 9 3 fun x8 =>
      Q x8 h
    else if v2 = 4 then
      gI h x2 9 4 fun x9 =>
      Q x9 h
    else if v2 = 5 then
      gI h x2 9 7 fun x10 =>
      Q x10 h
    else 
      Q (-2) h)
set_option maxRecDepth 20000 in
theorem E_X11_of {d : Nat} {v0 : Option Nm} {v1 : Int32} {v2 : Int32} {h : MH} {u : Nat} {Q : Int32 → MH → Prop} (H : F_X11_of d v0 v1 v2 h u Q) : T u_X11_of (d + 1) 0 [some (jR v0), some (jI v1), some (jI v2), none] [] h u (qI Q) := by
  unfold F_X11_of at H
  refine T_aload_n (pc := 0) dX11_of_0 rfl rfl ?_
  refine T_gR (pc := 1) fa_X11_12 dX11_of_1 (gR_mono (fun x1 H => ?_) H)
  refine T_iload_n (pc := 4) dX11_of_4 rfl rfl ?_
  refine T_i2l (pc := 5) dX11_of_5 ?_
  obtain ⟨H0, H⟩ := H
  refine T_iV (pc := 6) (ci := 6) (av := [jL (v1.toInt64)]) (rest := []) (o := x1) dX11_of_6 mf_X7_findValue c_2_63 c_2_64 c_2_65 rfl rfl (Nat.le_of_ble_eq_true rfl) rfl H0 (iR_k (iR_m0 (fun x2 h H => ?_) (J_X7_findValue (d := d) H)))
  refine T_astore_n (pc := 9) (ls2 := [some (jR v0), some (jI v1), some (jI v2), some (jR x2)]) dX11_of_9 rfl (Nat.le_of_ble_eq_true rfl) rfl ?_
  refine T_aload_n (pc := 10) dX11_of_10 rfl rfl ?_
  refine T_ifnonnull (pc := 11) (tgt := 16) dX11_of_11 (by decide) (fun ho => ?_) (fun n ho => ?_)
  · replace H := nl_n ho H
    refine T_iconst (pc := 14) (v := (-1)) dX11_of_14 (by decide) ?_
    exact T_ireturn (pc := 15) rfl rfl dX11_of_15 H
  · replace H := nl_s ho H
    refine T_iload_n (pc := 16) dX11_of_16 rfl rfl ?_
    by_cases h0 : v2 = 0
    · rw [if_pos h0] at H
      refine T_tableIn (pc := 17) (off := 39) (tgt := 56) dX11_of_17 (by rw [h0]; decide) (by rw [h0]; decide) (by rw [h0]; rfl) (by decide) ?_
      refine T_aload_n (pc := 56) dX11_of_56 rfl rfl ?_
      refine T_gR (pc := 57) fa_X11_252 dX11_of_57 (gR_mono (fun x3 H => ?_) H)
      refine T_gI (pc := 60) fa_X11_268 dX11_of_60 (gI_mono (fun x4 H => ?_) H)
      exact T_ireturn (pc := 63) rfl rfl dX11_of_63 H
    rw [if_neg h0] at H
    by_cases h1 : v2 = 1
    · rw [if_pos h1] at H
      refine T_tableIn (pc := 17) (off := 47) (tgt := 64) dX11_of_17 (by rw [h1]; decide) (by rw [h1]; decide) (by rw [h1]; rfl) (by decide) ?_
      refine T_aload_n (pc := 64) dX11_of_64 rfl rfl ?_
      refine T_gR (pc := 65) fa_X11_264 dX11_of_65 (gR_mono (fun x5 H => ?_) H)
      refine T_gI (pc := 68) fa_X11_210 dX11_of_68 (gI_mono (fun x6 H => ?_) H)
      exact T_ireturn (pc := 71) rfl rfl dX11_of_71 H
    rw [if_neg h1] at H
    by_cases h2 : v2 = 2
    · rw [if_pos h2] at H
      refine T_tableIn (pc := 17) (off := 55) (tgt := 72) dX11_of_17 (by rw [h2]; decide) (by rw [h2]; decide) (by rw [h2]; rfl) (by decide) ?_
      refine T_aload_n (pc := 72) dX11_of_72 rfl rfl ?_
      refine T_gI (pc := 73) fa_X11_269 dX11_of_73 (gI_mono (fun x7 H => ?_) H)
      exact T_ireturn (pc := 76) rfl rfl dX11_of_76 H
    rw [if_neg h2] at H
    by_cases h3 : v2 = 3
    · rw [if_pos h3] at H
      refine T_tableIn (pc := 17) (off := 60) (tgt := 77) dX11_of_17 (by rw [h3]; decide) (by rw [h3]; decide) (by rw [h3]; rfl) (by decide) ?_
      refine T_aload_n (pc := 77) dX11_of_77 rfl rfl ?_
      refine T_gI (pc := 78) fa_X11_272 dX11_of_78 (gI_mono (fun x8 H => ?_) H)
      exact T_ireturn (pc := 81) rfl rfl dX11_of_81 H
    rw [if_neg h3] at H
    by_cases h4 : v2 = 4
    · rw [if_pos h4] at H
      refine T_tableIn (pc := 17) (off := 65) (tgt := 82) dX11_of_17 (by rw [h4]; decide) (by rw [h4]; decide) (by rw [h4]; rfl) (by decide) ?_
      refine T_aload_n (pc := 82) dX11_of_82 rfl rfl ?_
      refine T_gI (pc := 83) fa_X11_275 dX11_of_83 (gI_mono (fun x9 H => ?_) H)
      exact T_ireturn (pc := 86) rfl rfl dX11_of_86 H
    rw [if_neg h4] at H
    by_cases h5 : v2 = 5
    · rw [if_pos h5] at H
      refine T_tableIn (pc := 17) (off := 70) (tgt := 87) dX11_of_17 (by rw [h5]; decide) (by rw [h5]; decide) (by rw [h5]; rfl) (by decide) ?_
      refine T_aload_n (pc := 87) dX11_of_87 rfl rfl ?_
      refine T_gI (pc := 88) fa_X11_278 dX11_of_88 (gI_mono (fun x10 H => ?_) H)
      exact T_ireturn (pc := 91) rfl rfl dX11_of_91 H
    rw [if_neg h5] at H
    have e0 : (v2 : Int32).toInt ≠ 0 := fun q => h0 (Int32.toInt_inj.mp (q.trans (by decide)))
    have e1 : (v2 : Int32).toInt ≠ 1 := fun q => h1 (Int32.toInt_inj.mp (q.trans (by decide)))
    have e2 : (v2 : Int32).toInt ≠ 2 := fun q => h2 (Int32.toInt_inj.mp (q.trans (by decide)))
    have e3 : (v2 : Int32).toInt ≠ 3 := fun q => h3 (Int32.toInt_inj.mp (q.trans (by decide)))
    have e4 : (v2 : Int32).toInt ≠ 4 := fun q => h4 (Int32.toInt_inj.mp (q.trans (by decide)))
    have e5 : (v2 : Int32).toInt ≠ 5 := fun q => h5 (Int32.toInt_inj.mp (q.trans (by decide)))
    refine T_tableOut (pc := 17) (tgt := 92) dX11_of_17 (by omega) (by decide) ?_
    refine T_bipush (pc := 92) (v := (-2)) dX11_of_92 (by decide) ?_
    exact T_ireturn (pc := 94) rfl rfl dX11_of_94 H
theorem I_X11_of {d : Nat} {v0 : Option Nm} {v1 : Int32} {v2 : Int32} {h : MH} {u : Nat} {K : Int32 → MH → Nat → Prop} (u1 : Nat) (hu : u1 ≤ u) (H : F_X11_of d v0 v1 v2 h u1 (fun x h2 => K x h2 (u - u1))) : iI (d + 1) u_X11_of [jR v0, jI v1, jI v2] h u K := inv.of u1 hu (Ct.of (by decide +kernel) rfl (Nat.le_of_ble_eq_true rfl) rfl (E_X11_of H))
theorem J_X11_of {d : Nat} {v0 : Option Nm} {v1 : Int32} {v2 : Int32} {h : MH} {u : Nat} {K : Int32 → MH → Prop} (H : F_X11_of d v0 v1 v2 h 0 K) : iI (d + 1) u_X11_of [jR v0, jI v1, jI v2] h u (fun x h2 u2 => K x h2 ∧ u2 = u) := jiI (by decide +kernel) rfl (Nat.le_of_ble_eq_true rfl) rfl (E_X11_of H)
theorem dX11_order_0 : decode cX11_order 0 = .ok (.aload_n 0, 1) := by decide +kernel
theorem dX11_order_1 : decode cX11_order 1 = .ok (.getfield 12, 3) := by decide +kernel
theorem dX11_order_4 : decode cX11_order 4 = .ok (.iload_n 1, 1) := by decide +kernel
theorem dX11_order_5 : decode cX11_order 5 = .ok (.i2l, 1) := by decide +kernel
theorem dX11_order_6 : decode cX11_order 6 = .ok (.invokevirtual 118, 3) := by decide +kernel
theorem dX11_order_9 : decode cX11_order 9 = .ok (.astore_n 3, 1) := by decide +kernel
theorem dX11_order_10 : decode cX11_order 10 = .ok (.aload_n 0, 1) := by decide +kernel
theorem dX11_order_11 : decode cX11_order 11 = .ok (.getfield 12, 3) := by decide +kernel
theorem dX11_order_14 : decode cX11_order 14 = .ok (.iload_n 2, 1) := by decide +kernel
theorem dX11_order_15 : decode cX11_order 15 = .ok (.i2l, 1) := by decide +kernel
theorem dX11_order_16 : decode cX11_order 16 = .ok (.invokevirtual 118, 3) := by decide +kernel
theorem dX11_order_19 : decode cX11_order 19 = .ok (.astore 4, 2) := by decide +kernel
theorem dX11_order_21 : decode cX11_order 21 = .ok (.aload_n 3, 1) := by decide +kernel
theorem dX11_order_22 : decode cX11_order 22 = .ok (.ifnull 8, 3) := by decide +kernel
theorem dX11_order_25 : decode cX11_order 25 = .ok (.aload 4, 2) := by decide +kernel
theorem dX11_order_27 : decode cX11_order 27 = .ok (.ifnonnull 5, 3) := by decide +kernel
theorem dX11_order_30 : decode cX11_order 30 = .ok (.iconst (-1), 1) := by decide +kernel
theorem dX11_order_31 : decode cX11_order 31 = .ok (.ireturn, 1) := by decide +kernel
theorem dX11_order_32 : decode cX11_order 32 = .ok (.aload_n 0, 1) := by decide +kernel
theorem dX11_order_33 : decode cX11_order 33 = .ok (.getfield 37, 3) := by decide +kernel
theorem dX11_order_36 : decode cX11_order 36 = .ok (.aload_n 3, 1) := by decide +kernel
theorem dX11_order_37 : decode cX11_order 37 = .ok (.aload 4, 2) := by decide +kernel
theorem dX11_order_39 : decode cX11_order 39 = .ok (.invokevirtual 292, 3) := by decide +kernel
theorem dX11_order_42 : decode cX11_order 42 = .ok (.bipush 100, 2) := by decide +kernel
theorem dX11_order_44 : decode cX11_order 44 = .ok (.isub, 1) := by decide +kernel
theorem dX11_order_45 : decode cX11_order 45 = .ok (.ireturn, 1) := by decide +kernel
def F_X11_order (d : Nat) (v0 : Option Nm) (v1 : Int32) (v2 : Int32) (h : MH) (u : Nat) (Q : Int32 → MH → Prop) : Prop :=
  gR h v0 10 0 fun x1 =>
  rc h x1 6 ∧ F_X7_findValue d x1 (v1.toInt64) h 0 fun x2 h =>
  gR h v0 10 0 fun x3 =>
  rc h x3 6 ∧ F_X7_findValue d x3 (v2.toInt64) h 0 fun x4 h =>
  nl x2 (
    Q (-1) h) (
    nl x4 (
      Q (-1) h) (
      gR h v0 10 3 fun x5 =>
      rc h x5 0 ∧ iI d u_X0_compareValues [jR x5, jR x2, jR x4] h u fun x6 h u =>
      Q (x6 - 100) h))
set_option maxRecDepth 20000 in
theorem E_X11_order {d : Nat} {v0 : Option Nm} {v1 : Int32} {v2 : Int32} {h : MH} {u : Nat} {Q : Int32 → MH → Prop} (H : F_X11_order d v0 v1 v2 h u Q) : T u_X11_order (d + 1) 0 [some (jR v0), some (jI v1), some (jI v2), none, none] [] h u (qI Q) := by
  unfold F_X11_order at H
  refine T_aload_n (pc := 0) dX11_order_0 rfl rfl ?_
  refine T_gR (pc := 1) fa_X11_12 dX11_order_1 (gR_mono (fun x1 H => ?_) H)
  refine T_iload_n (pc := 4) dX11_order_4 rfl rfl ?_
  refine T_i2l (pc := 5) dX11_order_5 ?_
  obtain ⟨H0, H⟩ := H
  refine T_iV (pc := 6) (ci := 6) (av := [jL (v1.toInt64)]) (rest := []) (o := x1) dX11_order_6 mf_X7_findValue c_2_63 c_2_64 c_2_65 rfl rfl (Nat.le_of_ble_eq_true rfl) rfl H0 (iR_k (iR_m0 (fun x2 h H => ?_) (J_X7_findValue (d := d) H)))
  refine T_astore_n (pc := 9) (ls2 := [some (jR v0), some (jI v1), some (jI v2), some (jR x2), none]) dX11_order_9 rfl (Nat.le_of_ble_eq_true rfl) rfl ?_
  refine T_aload_n (pc := 10) dX11_order_10 rfl rfl ?_
  refine T_gR (pc := 11) fa_X11_12 dX11_order_11 (gR_mono (fun x3 H => ?_) H)
  refine T_iload_n (pc := 14) dX11_order_14 rfl rfl ?_
  refine T_i2l (pc := 15) dX11_order_15 ?_
  obtain ⟨H0, H⟩ := H
  refine T_iV (pc := 16) (ci := 6) (av := [jL (v2.toInt64)]) (rest := []) (o := x3) dX11_order_16 mf_X7_findValue c_2_63 c_2_64 c_2_65 rfl rfl (Nat.le_of_ble_eq_true rfl) rfl H0 (iR_k (iR_m0 (fun x4 h H => ?_) (J_X7_findValue (d := d) H)))
  refine T_astore (pc := 19) (ls2 := [some (jR v0), some (jI v1), some (jI v2), some (jR x2), some (jR x4)]) dX11_order_19 (Nat.le_of_ble_eq_true rfl) rfl ?_
  refine T_aload_n (pc := 21) dX11_order_21 rfl rfl ?_
  refine T_ifnull (pc := 22) (tgt := 30) dX11_order_22 (by decide) (fun ho => ?_) (fun n ho => ?_)
  · replace H := nl_n ho H
    refine T_iconst (pc := 30) (v := (-1)) dX11_order_30 (by decide) ?_
    exact T_ireturn (pc := 31) rfl rfl dX11_order_31 H
  · replace H := nl_s ho H
    refine T_aload (pc := 25) dX11_order_25 rfl ?_
    refine T_ifnonnull (pc := 27) (tgt := 32) dX11_order_27 (by decide) (fun ho => ?_) (fun n ho => ?_)
    · replace H := nl_n ho H
      refine T_iconst (pc := 30) (v := (-1)) dX11_order_30 (by decide) ?_
      exact T_ireturn (pc := 31) rfl rfl dX11_order_31 H
    · replace H := nl_s ho H
      refine T_aload_n (pc := 32) dX11_order_32 rfl rfl ?_
      refine T_gR (pc := 33) fa_X11_37 dX11_order_33 (gR_mono (fun x5 H => ?_) H)
      refine T_aload_n (pc := 36) dX11_order_36 rfl rfl ?_
      refine T_aload (pc := 37) dX11_order_37 rfl ?_
      obtain ⟨H0, H⟩ := H
      refine T_iV (pc := 39) (ci := 0) (av := [jR x2, jR x4]) (rest := []) (o := x5) dX11_order_39 mf_X0_compareValues c_4_23 c_4_24 c_4_25 rfl rfl (Nat.le_of_ble_eq_true rfl) rfl H0 (iI_k (iI_mono (fun x6 h u H => ?_) H))
      refine T_bipush (pc := 42) (v := 100) dX11_order_42 (by decide) ?_
      refine T_isub (pc := 44) dX11_order_44 ?_
      exact T_ireturn (pc := 45) rfl rfl dX11_order_45 H
theorem I_X11_order {d : Nat} {v0 : Option Nm} {v1 : Int32} {v2 : Int32} {h : MH} {u : Nat} {K : Int32 → MH → Nat → Prop} (u1 : Nat) (hu : u1 ≤ u) (H : F_X11_order d v0 v1 v2 h u1 (fun x h2 => K x h2 (u - u1))) : iI (d + 1) u_X11_order [jR v0, jI v1, jI v2] h u K := inv.of u1 hu (Ct.of (by decide +kernel) rfl (Nat.le_of_ble_eq_true rfl) rfl (E_X11_order H))
theorem J_X11_order {d : Nat} {v0 : Option Nm} {v1 : Int32} {v2 : Int32} {h : MH} {u : Nat} {K : Int32 → MH → Prop} (H : F_X11_order d v0 v1 v2 h 0 K) : iI (d + 1) u_X11_order [jR v0, jI v1, jI v2] h u (fun x h2 u2 => K x h2 ∧ u2 = u) := jiI (by decide +kernel) rfl (Nat.le_of_ble_eq_true rfl) rfl (E_X11_order H)
theorem dX11_part_0 : decode cX11_part 0 = .ok (.aload_n 0, 1) := by decide +kernel
theorem dX11_part_1 : decode cX11_part 1 = .ok (.getfield 12, 3) := by decide +kernel
theorem dX11_part_4 : decode cX11_part 4 = .ok (.iload_n 1, 1) := by decide +kernel
theorem dX11_part_5 : decode cX11_part 5 = .ok (.i2l, 1) := by decide +kernel
theorem dX11_part_6 : decode cX11_part 6 = .ok (.invokevirtual 118, 3) := by decide +kernel
theorem dX11_part_9 : decode cX11_part 9 = .ok (.astore_n 3, 1) := by decide +kernel
theorem dX11_part_10 : decode cX11_part 10 = .ok (.aload_n 3, 1) := by decide +kernel
theorem dX11_part_11 : decode cX11_part 11 = .ok (.ifnull 13, 3) := by decide +kernel
theorem dX11_part_14 : decode cX11_part 14 = .ok (.aload_n 3, 1) := by decide +kernel
theorem dX11_part_15 : decode cX11_part 15 = .ok (.getfield 252, 3) := by decide +kernel
theorem dX11_part_18 : decode cX11_part 18 = .ok (.getfield 192, 3) := by decide +kernel
theorem dX11_part_21 : decode cX11_part 21 = .ok (.ifCond .eq 7, 3) := by decide +kernel
theorem dX11_part_24 : decode cX11_part 24 = .ok (.ldc2_w 112, 3) := by decide +kernel
theorem dX11_part_27 : decode cX11_part 27 = .ok (.lreturn, 1) := by decide +kernel
theorem dX11_part_28 : decode cX11_part 28 = .ok (.aload_n 3, 1) := by decide +kernel
theorem dX11_part_29 : decode cX11_part 29 = .ok (.iload_n 2, 1) := by decide +kernel
theorem dX11_part_30 : decode cX11_part 30 = .ok (.invokevirtual 258, 3) := by decide +kernel
theorem dX11_part_33 : decode cX11_part 33 = .ok (.ifCond .ne 9, 3) := by decide +kernel
theorem dX11_part_36 : decode cX11_part 36 = .ok (.aload_n 0, 1) := by decide +kernel
theorem dX11_part_37 : decode cX11_part 37 = .ok (.iconst 2, 1) := by decide +kernel
theorem dX11_part_38 : decode cX11_part 38 = .ok (.invokevirtual 114, 3) := by decide +kernel
theorem dX11_part_41 : decode cX11_part 41 = .ok (.lreturn, 1) := by decide +kernel
theorem dX11_part_42 : decode cX11_part 42 = .ok (.aload_n 3, 1) := by decide +kernel
theorem dX11_part_43 : decode cX11_part 43 = .ok (.iload_n 2, 1) := by decide +kernel
theorem dX11_part_44 : decode cX11_part 44 = .ok (.invokevirtual 261, 3) := by decide +kernel
theorem dX11_part_47 : decode cX11_part 47 = .ok (.lreturn, 1) := by decide +kernel
def F_X11_part (d : Nat) (v0 : Option Nm) (v1 : Int32) (v2 : Int32) (h : MH) (u : Nat) (Q : Int64 → MH → Prop) : Prop :=
  gR h v0 10 0 fun x1 =>
  rc h x1 6 ∧ F_X7_findValue (d + 1) x1 (v1.toInt64) h 0 fun x2 h =>
  nl x2 (
    Q (-9223372036854775808) h) (
    gR h x2 9 1 fun x3 =>
    gI h x3 3 1 fun x4 =>
    if x4 = 0 then
      rc h x2 9 ∧ F_X10_hasPart (d + 1) x2 v2 h 0 fun x5 h =>
      if x5 = 0 then
        rc h v0 10 ∧ F_X11_lost d v0 2 h 0 fun x7 h =>
        Q x7 h
      else
        rc h x2 9 ∧ F_X10_tellPart d x2 v2 h 0 fun x6 h =>
        Q x6 h
    else
      Q (-9223372036854775808) h)
set_option maxRecDepth 20000 in
theorem E_X11_part {d : Nat} {v0 : Option Nm} {v1 : Int32} {v2 : Int32} {h : MH} {u : Nat} {Q : Int64 → MH → Prop} (H : F_X11_part d v0 v1 v2 h u Q) : T u_X11_part (d + 2) 0 [some (jR v0), some (jI v1), some (jI v2), none] [] h u (qL Q) := by
  unfold F_X11_part at H
  refine T_aload_n (pc := 0) dX11_part_0 rfl rfl ?_
  refine T_gR (pc := 1) fa_X11_12 dX11_part_1 (gR_mono (fun x1 H => ?_) H)
  refine T_iload_n (pc := 4) dX11_part_4 rfl rfl ?_
  refine T_i2l (pc := 5) dX11_part_5 ?_
  obtain ⟨H0, H⟩ := H
  refine T_iV (pc := 6) (ci := 6) (av := [jL (v1.toInt64)]) (rest := []) (o := x1) dX11_part_6 mf_X7_findValue c_2_63 c_2_64 c_2_65 rfl rfl (Nat.le_of_ble_eq_true rfl) rfl H0 (iR_k (iR_m0 (fun x2 h H => ?_) (J_X7_findValue (d := (d + 1)) H)))
  refine T_astore_n (pc := 9) (ls2 := [some (jR v0), some (jI v1), some (jI v2), some (jR x2)]) dX11_part_9 rfl (Nat.le_of_ble_eq_true rfl) rfl ?_
  refine T_aload_n (pc := 10) dX11_part_10 rfl rfl ?_
  refine T_ifnull (pc := 11) (tgt := 24) dX11_part_11 (by decide) (fun ho => ?_) (fun n ho => ?_)
  · replace H := nl_n ho H
    refine T_ldc2 (pc := 24) (v := (-9223372036854775808)) dX11_part_24 c_2_54 ?_
    exact T_lreturn (pc := 27) rfl dX11_part_27 H
  · replace H := nl_s ho H
    refine T_aload_n (pc := 14) dX11_part_14 rfl rfl ?_
    refine T_gR (pc := 15) fa_X11_252 dX11_part_15 (gR_mono (fun x3 H => ?_) H)
    refine T_gI (pc := 18) fa_X11_192 dX11_part_18 (gI_mono (fun x4 H => ?_) H)
    refine T_if_eq (pc := 21) (tgt := 28) dX11_part_21 (by decide) (fun hc => ?_) (fun hc => ?_)
    · rw [if_pos hc] at H
      refine T_aload_n (pc := 28) dX11_part_28 rfl rfl ?_
      refine T_iload_n (pc := 29) dX11_part_29 rfl rfl ?_
      obtain ⟨H0, H⟩ := H
      refine T_iV (pc := 30) (ci := 9) (av := [jI v2]) (rest := []) (o := x2) dX11_part_30 mf_X10_hasPart c_3_228 c_3_229 c_3_230 rfl rfl (Nat.le_of_ble_eq_true rfl) rfl H0 (iI_k (iI_m0 (fun x5 h H => ?_) (J_X10_hasPart (d := (d + 1)) H)))
      refine T_if_ne (pc := 33) (tgt := 42) dX11_part_33 (by decide) (fun hc => ?_) (fun hc => ?_)
      · rw [if_neg hc] at H
        refine T_aload_n (pc := 42) dX11_part_42 rfl rfl ?_
        refine T_iload_n (pc := 43) dX11_part_43 rfl rfl ?_
        obtain ⟨H0, H⟩ := H
        refine T_iV (pc := 44) (ci := 9) (av := [jI v2]) (rest := []) (o := x2) dX11_part_44 mf_X10_tellPart c_3_232 c_3_233 c_3_234 rfl rfl (Nat.le_of_ble_eq_true rfl) rfl H0 (iL_k (iL_m0 (fun x6 h H => ?_) (J_X10_tellPart (d := d) H)))
        exact T_lreturn (pc := 47) rfl dX11_part_47 H
      · rw [if_pos hc] at H
        refine T_aload_n (pc := 36) dX11_part_36 rfl rfl ?_
        refine T_iconst (pc := 37) (v := 2) dX11_part_37 (by decide) ?_
        obtain ⟨H0, H⟩ := H
        refine T_iV (pc := 38) (ci := 10) (av := [jI 2]) (rest := []) (o := v0) dX11_part_38 mf_X11_lost c_2_55 c_2_57 pr_X11_lost rfl rfl (Nat.le_of_ble_eq_true rfl) rfl H0 (iL_k (iL_m0 (fun x7 h H => ?_) (J_X11_lost (d := d) H)))
        exact T_lreturn (pc := 41) rfl dX11_part_41 H
    · rw [if_neg hc] at H
      refine T_ldc2 (pc := 24) (v := (-9223372036854775808)) dX11_part_24 c_2_54 ?_
      exact T_lreturn (pc := 27) rfl dX11_part_27 H
theorem I_X11_part {d : Nat} {v0 : Option Nm} {v1 : Int32} {v2 : Int32} {h : MH} {u : Nat} {K : Int64 → MH → Nat → Prop} (u1 : Nat) (hu : u1 ≤ u) (H : F_X11_part d v0 v1 v2 h u1 (fun x h2 => K x h2 (u - u1))) : iL (d + 2) u_X11_part [jR v0, jI v1, jI v2] h u K := inv.of u1 hu (Ct.of (by decide +kernel) rfl (Nat.le_of_ble_eq_true rfl) rfl (E_X11_part H))
theorem J_X11_part {d : Nat} {v0 : Option Nm} {v1 : Int32} {v2 : Int32} {h : MH} {u : Nat} {K : Int64 → MH → Prop} (H : F_X11_part d v0 v1 v2 h 0 K) : iL (d + 2) u_X11_part [jR v0, jI v1, jI v2] h u (fun x h2 u2 => K x h2 ∧ u2 = u) := jiL (by decide +kernel) rfl (Nat.le_of_ble_eq_true rfl) rfl (E_X11_part H)
theorem dX11_put_0 : decode cX11_put 0 = .ok (.aload_n 0, 1) := by decide +kernel
theorem dX11_put_1 : decode cX11_put 1 = .ok (.getfield 12, 3) := by decide +kernel
theorem dX11_put_4 : decode cX11_put 4 = .ok (.iload_n 1, 1) := by decide +kernel
theorem dX11_put_5 : decode cX11_put 5 = .ok (.i2l, 1) := by decide +kernel
theorem dX11_put_6 : decode cX11_put 6 = .ok (.invokevirtual 86, 3) := by decide +kernel
theorem dX11_put_9 : decode cX11_put 9 = .ok (.astore 6, 2) := by decide +kernel
theorem dX11_put_11 : decode cX11_put 11 = .ok (.aload 6, 2) := by decide +kernel
theorem dX11_put_13 : decode cX11_put 13 = .ok (.ifnonnull 5, 3) := by decide +kernel
theorem dX11_put_16 : decode cX11_put 16 = .ok (.iconst (-1), 1) := by decide +kernel
theorem dX11_put_17 : decode cX11_put 17 = .ok (.ireturn, 1) := by decide +kernel
theorem dX11_put_18 : decode cX11_put 18 = .ok (.iload_n 3, 1) := by decide +kernel
theorem dX11_put_19 : decode cX11_put 19 = .ok (.invokestatic 90, 3) := by decide +kernel
theorem dX11_put_22 : decode cX11_put 22 = .ok (.ifCond .ne 6, 3) := by decide +kernel
theorem dX11_put_25 : decode cX11_put 25 = .ok (.bipush (-2), 2) := by decide +kernel
theorem dX11_put_27 : decode cX11_put 27 = .ok (.ireturn, 1) := by decide +kernel
theorem dX11_put_28 : decode cX11_put 28 = .ok (.aload 6, 2) := by decide +kernel
theorem dX11_put_30 : decode cX11_put 30 = .ok (.iload_n 2, 1) := by decide +kernel
theorem dX11_put_31 : decode cX11_put 31 = .ok (.iload_n 3, 1) := by decide +kernel
theorem dX11_put_32 : decode cX11_put 32 = .ok (.aload 6, 2) := by decide +kernel
theorem dX11_put_34 : decode cX11_put 34 = .ok (.getfield 93, 3) := by decide +kernel
theorem dX11_put_37 : decode cX11_put 37 = .ok (.invokestatic 96, 3) := by decide +kernel
theorem dX11_put_40 : decode cX11_put 40 = .ok (.istore 7, 2) := by decide +kernel
theorem dX11_put_42 : decode cX11_put 42 = .ok (.iload 7, 2) := by decide +kernel
theorem dX11_put_44 : decode cX11_put 44 = .ok (.ifCond .eq 10, 3) := by decide +kernel
theorem dX11_put_47 : decode cX11_put 47 = .ok (.aload_n 0, 1) := by decide +kernel
theorem dX11_put_48 : decode cX11_put 48 = .ok (.iload 7, 2) := by decide +kernel
theorem dX11_put_50 : decode cX11_put 50 = .ok (.invokevirtual 72, 3) := by decide +kernel
theorem dX11_put_53 : decode cX11_put 53 = .ok (.ireturn, 1) := by decide +kernel
theorem dX11_put_54 : decode cX11_put 54 = .ok (.aload 6, 2) := by decide +kernel
theorem dX11_put_56 : decode cX11_put 56 = .ok (.getfield 100, 3) := by decide +kernel
theorem dX11_put_59 : decode cX11_put 59 = .ok (.iload_n 2, 1) := by decide +kernel
theorem dX11_put_60 : decode cX11_put 60 = .ok (.iload_n 3, 1) := by decide +kernel
theorem dX11_put_61 : decode cX11_put 61 = .ok (.aload 6, 2) := by decide +kernel
theorem dX11_put_63 : decode cX11_put 63 = .ok (.getfield 93, 3) := by decide +kernel
theorem dX11_put_66 : decode cX11_put 66 = .ok (.iload_n 3, 1) := by decide +kernel
theorem dX11_put_67 : decode cX11_put 67 = .ok (.lload 4, 2) := by decide +kernel
theorem dX11_put_69 : decode cX11_put 69 = .ok (.invokestatic 104, 3) := by decide +kernel
theorem dX11_put_72 : decode cX11_put 72 = .ok (.invokestatic 108, 3) := by decide +kernel
theorem dX11_put_75 : decode cX11_put 75 = .ok (.lastore, 1) := by decide +kernel
theorem dX11_put_76 : decode cX11_put 76 = .ok (.iconst 1, 1) := by decide +kernel
theorem dX11_put_77 : decode cX11_put 77 = .ok (.ireturn, 1) := by decide +kernel
def F_X11_put (d : Nat) (v0 : Option Nm) (v1 : Int32) (v2 : Int32) (v3 : Int32) (v4 : Int64) (h : MH) (u : Nat) (Q : Int32 → MH → Prop) : Prop :=
  gR h v0 10 0 fun x1 =>
  rc h x1 6 ∧ F_X7_findRow (d + 4) x1 (v1.toInt64) h 0 fun x2 h =>
  nl x2 (
    Q (-1) h) (
    F_X4_isNumber (d + 4) v3 h 0 fun x3 h =>
    if x3 = 0 then
      Q (-2) h
    else
      gI h x2 4 1 fun x4 =>
      F_X11_numberFault (d + 3) x2 v2 v3 x4 h 0 fun x5 h =>
      if x5 = 0 then
        gR h x2 4 2 fun x6 =>
        gI h x2 4 1 fun x7 =>
        F_X4_come (d + 1) v3 v4 h 0 fun x8 h =>
        F_X4_widen d v3 x7 x8 h 0 fun x9 h =>
        sV .long h x6 v2 (jL x9) fun h =>
        Q 1 h
      else
        rc h v0 10 ∧ F_X11_failed (d + 4) v0 x5 h 0 fun x10 h =>
        Q x10 h)
set_option maxRecDepth 20000 in
theorem E_X11_put {d : Nat} {v0 : Option Nm} {v1 : Int32} {v2 : Int32} {v3 : Int32} {v4 : Int64} {h : MH} {u : Nat} {Q : Int32 → MH → Prop} (H : F_X11_put d v0 v1 v2 v3 v4 h u Q) : T u_X11_put (d + 5) 0 [some (jR v0), some (jI v1), some (jI v2), some (jI v3), some (jL v4), none, none, none] [] h u (qI Q) := by
  unfold F_X11_put at H
  refine T_aload_n (pc := 0) dX11_put_0 rfl rfl ?_
  refine T_gR (pc := 1) fa_X11_12 dX11_put_1 (gR_mono (fun x1 H => ?_) H)
  refine T_iload_n (pc := 4) dX11_put_4 rfl rfl ?_
  refine T_i2l (pc := 5) dX11_put_5 ?_
  obtain ⟨H0, H⟩ := H
  refine T_iV (pc := 6) (ci := 6) (av := [jL (v1.toInt64)]) (rest := []) (o := x1) dX11_put_6 mf_X7_findRow c_2_1 c_2_2 c_2_3 rfl rfl (Nat.le_of_ble_eq_true rfl) rfl H0 (iR_k (iR_m0 (fun x2 h H => ?_) (J_X7_findRow (d := (d + 4)) H)))
  refine T_astore (pc := 9) (ls2 := [some (jR v0), some (jI v1), some (jI v2), some (jI v3), some (jL v4), none, some (jR x2), none]) dX11_put_9 (Nat.le_of_ble_eq_true rfl) rfl ?_
  refine T_aload (pc := 11) dX11_put_11 rfl ?_
  refine T_ifnonnull (pc := 13) (tgt := 18) dX11_put_13 (by decide) (fun ho => ?_) (fun n ho => ?_)
  · replace H := nl_n ho H
    refine T_iconst (pc := 16) (v := (-1)) dX11_put_16 (by decide) ?_
    exact T_ireturn (pc := 17) rfl rfl dX11_put_17 H
  · replace H := nl_s ho H
    refine T_iload_n (pc := 18) dX11_put_18 rfl rfl ?_
    refine T_invS (pc := 19) (av := [jI v3]) (rest := []) dX11_put_19 mf_X4_isNumber c_2_5 c_2_6 rfl (Nat.le_of_ble_eq_true rfl) rfl (iI_k (iI_m0 (fun x3 h H => ?_) (J_X4_isNumber (d := (d + 4)) H)))
    refine T_if_ne (pc := 22) (tgt := 28) dX11_put_22 (by decide) (fun hc => ?_) (fun hc => ?_)
    · rw [if_neg hc] at H
      refine T_aload (pc := 28) dX11_put_28 rfl ?_
      refine T_iload_n (pc := 30) dX11_put_30 rfl rfl ?_
      refine T_iload_n (pc := 31) dX11_put_31 rfl rfl ?_
      refine T_aload (pc := 32) dX11_put_32 rfl ?_
      refine T_gI (pc := 34) fa_X11_93 dX11_put_34 (gI_mono (fun x4 H => ?_) H)
      refine T_invS (pc := 37) (av := [jR x2, jI v2, jI v3, jI x4]) (rest := []) dX11_put_37 mf_X11_numberFault c_2_8 c_2_9 rfl (Nat.le_of_ble_eq_true rfl) rfl (iI_k (iI_m0 (fun x5 h H => ?_) (J_X11_numberFault (d := (d + 3)) H)))
      refine T_istore (pc := 40) (ls2 := [some (jR v0), some (jI v1), some (jI v2), some (jI v3), some (jL v4), none, some (jR x2), some (jI x5)]) dX11_put_40 (Nat.le_of_ble_eq_true rfl) rfl ?_
      refine T_iload (pc := 42) dX11_put_42 rfl ?_
      refine T_if_eq (pc := 44) (tgt := 54) dX11_put_44 (by decide) (fun hc => ?_) (fun hc => ?_)
      · rw [if_pos hc] at H
        refine T_aload (pc := 54) dX11_put_54 rfl ?_
        refine T_gR (pc := 56) fa_X11_100 dX11_put_56 (gR_mono (fun x6 H => ?_) H)
        refine T_iload_n (pc := 59) dX11_put_59 rfl rfl ?_
        refine T_iload_n (pc := 60) dX11_put_60 rfl rfl ?_
        refine T_aload (pc := 61) dX11_put_61 rfl ?_
        refine T_gI (pc := 63) fa_X11_93 dX11_put_63 (gI_mono (fun x7 H => ?_) H)
        refine T_iload_n (pc := 66) dX11_put_66 rfl rfl ?_
        refine T_lload (pc := 67) dX11_put_67 rfl ?_
        refine T_invS (pc := 69) (av := [jI v3, jL v4]) (rest := [jI x7, jI v3, jI v2, jR x6]) dX11_put_69 mf_X4_come c_2_18 c_2_19 rfl (Nat.le_of_ble_eq_true rfl) rfl (iL_k (iL_m0 (fun x8 h H => ?_) (J_X4_come (d := (d + 1)) H)))
        refine T_invS (pc := 72) (av := [jI v3, jI x7, jL x8]) (rest := [jI v2, jR x6]) dX11_put_72 mf_X4_widen c_2_39 c_2_40 rfl (Nat.le_of_ble_eq_true rfl) rfl (iL_k (iL_m0 (fun x9 h H => ?_) (J_X4_widen (d := d) H)))
        refine T_sL (pc := 75) dX11_put_75 (sV_mono (fun h H => ?_) H)
        refine T_iconst (pc := 76) (v := 1) dX11_put_76 (by decide) ?_
        exact T_ireturn (pc := 77) rfl rfl dX11_put_77 H
      · rw [if_neg hc] at H
        refine T_aload_n (pc := 47) dX11_put_47 rfl rfl ?_
        refine T_iload (pc := 48) dX11_put_48 rfl ?_
        obtain ⟨H0, H⟩ := H
        refine T_iV (pc := 50) (ci := 10) (av := [jI x5]) (rest := []) (o := v0) dX11_put_50 mf_X11_failed c_1_196 c_1_198 pr_X11_failed rfl rfl (Nat.le_of_ble_eq_true rfl) rfl H0 (iI_k (iI_m0 (fun x10 h H => ?_) (J_X11_failed (d := (d + 4)) H)))
        exact T_ireturn (pc := 53) rfl rfl dX11_put_53 H
    · rw [if_pos hc] at H
      refine T_bipush (pc := 25) (v := (-2)) dX11_put_25 (by decide) ?_
      exact T_ireturn (pc := 27) rfl rfl dX11_put_27 H
theorem I_X11_put {d : Nat} {v0 : Option Nm} {v1 : Int32} {v2 : Int32} {v3 : Int32} {v4 : Int64} {h : MH} {u : Nat} {K : Int32 → MH → Nat → Prop} (u1 : Nat) (hu : u1 ≤ u) (H : F_X11_put d v0 v1 v2 v3 v4 h u1 (fun x h2 => K x h2 (u - u1))) : iI (d + 5) u_X11_put [jR v0, jI v1, jI v2, jI v3, jL v4] h u K := inv.of u1 hu (Ct.of (by decide +kernel) rfl (Nat.le_of_ble_eq_true rfl) rfl (E_X11_put H))
theorem J_X11_put {d : Nat} {v0 : Option Nm} {v1 : Int32} {v2 : Int32} {v3 : Int32} {v4 : Int64} {h : MH} {u : Nat} {K : Int32 → MH → Prop} (H : F_X11_put d v0 v1 v2 v3 v4 h 0 K) : iI (d + 5) u_X11_put [jR v0, jI v1, jI v2, jI v3, jL v4] h u (fun x h2 u2 => K x h2 ∧ u2 = u) := jiI (by decide +kernel) rfl (Nat.le_of_ble_eq_true rfl) rfl (E_X11_put H)
theorem dX11_record_0 : decode cX11_record 0 = .ok (.iload_n 1, 1) := by decide +kernel
theorem dX11_record_1 : decode cX11_record 1 = .ok (.iconst 0, 1) := by decide +kernel
theorem dX11_record_2 : decode cX11_record 2 = .ok (.iconst 4, 1) := by decide +kernel
theorem dX11_record_3 : decode cX11_record 3 = .ok (.invokestatic 64, 3) := by decide +kernel
theorem dX11_record_6 : decode cX11_record 6 = .ok (.ifCond .eq 12, 3) := by decide +kernel
theorem dX11_record_9 : decode cX11_record 9 = .ok (.aload_n 0, 1) := by decide +kernel
theorem dX11_record_10 : decode cX11_record 10 = .ok (.iconst 0, 1) := by decide +kernel
theorem dX11_record_11 : decode cX11_record 11 = .ok (.iload_n 1, 1) := by decide +kernel
theorem dX11_record_12 : decode cX11_record 12 = .ok (.invokevirtual 151, 3) := by decide +kernel
theorem dX11_record_15 : decode cX11_record 15 = .ok (.goto 5, 3) := by decide +kernel
theorem dX11_record_18 : decode cX11_record 18 = .ok (.bipush (-2), 2) := by decide +kernel
theorem dX11_record_20 : decode cX11_record 20 = .ok (.ireturn, 1) := by decide +kernel
def F_X11_record (d : Nat) (v0 : Option Nm) (v1 : Int32) (h : MH) (u : Nat) (Q : Int32 → MH → Prop) : Prop :=
  F_X11_isWithin d v1 0 4 h 0 fun x1 h =>
  if x1 = 0 then
    Q (-2) h
  else
    rc h v0 10 ∧ iI d u_X11_newKind [jR v0, jI 0, jI v1] h u fun x2 h u =>
    Q x2 h
set_option maxRecDepth 20000 in
theorem E_X11_record {d : Nat} {v0 : Option Nm} {v1 : Int32} {h : MH} {u : Nat} {Q : Int32 → MH → Prop} (H : F_X11_record d v0 v1 h u Q) : T u_X11_record (d + 1) 0 [some (jR v0), some (jI v1)] [] h u (qI Q) := by
  unfold F_X11_record at H
  refine T_iload_n (pc := 0) dX11_record_0 rfl rfl ?_
  refine T_iconst (pc := 1) (v := 0) dX11_record_1 (by decide) ?_
  refine T_iconst (pc := 2) (v := 4) dX11_record_2 (by decide) ?_
  refine T_invS (pc := 3) (av := [jI v1, jI 0, jI 4]) (rest := []) dX11_record_3 mf_X11_isWithin c_1_189 c_1_190 rfl (Nat.le_of_ble_eq_true rfl) rfl (iI_k (iI_m0 (fun x1 h H => ?_) (J_X11_isWithin (d := d) H)))
  refine T_if_eq (pc := 6) (tgt := 18) dX11_record_6 (by decide) (fun hc => ?_) (fun hc => ?_)
  · rw [if_pos hc] at H
    refine T_bipush (pc := 18) (v := (-2)) dX11_record_18 (by decide) ?_
    exact T_ireturn (pc := 20) rfl rfl dX11_record_20 H
  · rw [if_neg hc] at H
    refine T_aload_n (pc := 9) dX11_record_9 rfl rfl ?_
    refine T_iconst (pc := 10) (v := 0) dX11_record_10 (by decide) ?_
    refine T_iload_n (pc := 11) dX11_record_11 rfl rfl ?_
    obtain ⟨H0, H⟩ := H
    refine T_iV (pc := 12) (ci := 10) (av := [jI 0, jI v1]) (rest := []) (o := v0) dX11_record_12 mf_X11_newKind c_2_115 c_2_117 pr_X11_newKind rfl rfl (Nat.le_of_ble_eq_true rfl) rfl H0 (iI_k (iI_mono (fun x2 h u H => ?_) H))
    refine T_goto (pc := 15) (tgt := 20) dX11_record_15 (by decide) ?_
    exact T_ireturn (pc := 20) rfl rfl dX11_record_20 H
theorem I_X11_record {d : Nat} {v0 : Option Nm} {v1 : Int32} {h : MH} {u : Nat} {K : Int32 → MH → Nat → Prop} (u1 : Nat) (hu : u1 ≤ u) (H : F_X11_record d v0 v1 h u1 (fun x h2 => K x h2 (u - u1))) : iI (d + 1) u_X11_record [jR v0, jI v1] h u K := inv.of u1 hu (Ct.of (by decide +kernel) rfl (Nat.le_of_ble_eq_true rfl) rfl (E_X11_record H))
theorem dX11_row_0 : decode cX11_row 0 = .ok (.iload_n 1, 1) := by decide +kernel
theorem dX11_row_1 : decode cX11_row 1 = .ok (.iconst 0, 1) := by decide +kernel
theorem dX11_row_2 : decode cX11_row 2 = .ok (.bipush 8, 2) := by decide +kernel
theorem dX11_row_4 : decode cX11_row 4 = .ok (.invokestatic 64, 3) := by decide +kernel
theorem dX11_row_7 : decode cX11_row 7 = .ok (.ifCond .eq 9, 3) := by decide +kernel
theorem dX11_row_10 : decode cX11_row 10 = .ok (.iload_n 2, 1) := by decide +kernel
theorem dX11_row_11 : decode cX11_row 11 = .ok (.bipush 20, 2) := by decide +kernel
theorem dX11_row_13 : decode cX11_row 13 = .ok (.if_icmp .le 6, 3) := by decide +kernel
theorem dX11_row_16 : decode cX11_row 16 = .ok (.bipush (-2), 2) := by decide +kernel
theorem dX11_row_18 : decode cX11_row 18 = .ok (.ireturn, 1) := by decide +kernel
theorem dX11_row_19 : decode cX11_row 19 = .ok (.aload_n 0, 1) := by decide +kernel
theorem dX11_row_20 : decode cX11_row 20 = .ok (.getfield 12, 3) := by decide +kernel
theorem dX11_row_23 : decode cX11_row 23 = .ok (.iconst 1, 1) := by decide +kernel
theorem dX11_row_24 : decode cX11_row 24 = .ok (.invokevirtual 68, 3) := by decide +kernel
theorem dX11_row_27 : decode cX11_row 27 = .ok (.ifCond .ne 6, 3) := by decide +kernel
theorem dX11_row_30 : decode cX11_row 30 = .ok (.bipush (-4), 2) := by decide +kernel
theorem dX11_row_32 : decode cX11_row 32 = .ok (.ireturn, 1) := by decide +kernel
theorem dX11_row_33 : decode cX11_row 33 = .ok (.iload_n 2, 1) := by decide +kernel
theorem dX11_row_34 : decode cX11_row 34 = .ok (.ifCond .ge 9, 3) := by decide +kernel
theorem dX11_row_37 : decode cX11_row 37 = .ok (.aload_n 0, 1) := by decide +kernel
theorem dX11_row_38 : decode cX11_row 38 = .ok (.iconst 4, 1) := by decide +kernel
theorem dX11_row_39 : decode cX11_row 39 = .ok (.invokevirtual 72, 3) := by decide +kernel
theorem dX11_row_42 : decode cX11_row 42 = .ok (.ireturn, 1) := by decide +kernel
theorem dX11_row_43 : decode cX11_row 43 = .ok (.aload_n 0, 1) := by decide +kernel
theorem dX11_row_44 : decode cX11_row 44 = .ok (.getfield 12, 3) := by decide +kernel
theorem dX11_row_47 : decode cX11_row 47 = .ok (.iload_n 1, 1) := by decide +kernel
theorem dX11_row_48 : decode cX11_row 48 = .ok (.iload_n 2, 1) := by decide +kernel
theorem dX11_row_49 : decode cX11_row 49 = .ok (.iconst 0, 1) := by decide +kernel
theorem dX11_row_50 : decode cX11_row 50 = .ok (.invokevirtual 76, 3) := by decide +kernel
theorem dX11_row_53 : decode cX11_row 53 = .ok (.getfield 80, 3) := by decide +kernel
theorem dX11_row_56 : decode cX11_row 56 = .ok (.ireturn, 1) := by decide +kernel
def F_X11_row (d : Nat) (v0 : Option Nm) (v1 : Int32) (v2 : Int32) (h : MH) (u : Nat) (Q : Int32 → MH → Prop) : Prop :=
  F_X11_isWithin d v1 0 8 h 0 fun x1 h =>
  if x1 = 0 then
    Q (-2) h
  else
    if v2 ≤ 20 then
      gR h v0 10 0 fun x2 =>
      rc h x2 6 ∧ F_X7_hasRoomForRows d x2 1 h 0 fun x3 h =>
      if x3 = 0 then
        Q (-4) h
      else
        if 0 ≤ v2 then
          gR h v0 10 0 fun x4 =>
          rc h x4 6 ∧ iR d u_X7_addRow [jR x4, jI v1, jI v2, jI 0] h u fun x5 h u =>
          gI h x5 4 0 fun x6 =>
          Q x6 h
        else
          rc h v0 10 ∧ F_X11_failed d v0 4 h 0 fun x7 h =>
          Q x7 h
    else
      Q (-2) h
set_option maxRecDepth 20000 in
theorem E_X11_row {d : Nat} {v0 : Option Nm} {v1 : Int32} {v2 : Int32} {h : MH} {u : Nat} {Q : Int32 → MH → Prop} (H : F_X11_row d v0 v1 v2 h u Q) : T u_X11_row (d + 1) 0 [some (jR v0), some (jI v1), some (jI v2)] [] h u (qI Q) := by
  unfold F_X11_row at H
  refine T_iload_n (pc := 0) dX11_row_0 rfl rfl ?_
  refine T_iconst (pc := 1) (v := 0) dX11_row_1 (by decide) ?_
  refine T_bipush (pc := 2) (v := 8) dX11_row_2 (by decide) ?_
  refine T_invS (pc := 4) (av := [jI v1, jI 0, jI 8]) (rest := []) dX11_row_4 mf_X11_isWithin c_1_189 c_1_190 rfl (Nat.le_of_ble_eq_true rfl) rfl (iI_k (iI_m0 (fun x1 h H => ?_) (J_X11_isWithin (d := d) H)))
  refine T_if_eq (pc := 7) (tgt := 16) dX11_row_7 (by decide) (fun hc => ?_) (fun hc => ?_)
  · rw [if_pos hc] at H
    refine T_bipush (pc := 16) (v := (-2)) dX11_row_16 (by decide) ?_
    exact T_ireturn (pc := 18) rfl rfl dX11_row_18 H
  · rw [if_neg hc] at H
    refine T_iload_n (pc := 10) dX11_row_10 rfl rfl ?_
    refine T_bipush (pc := 11) (v := 20) dX11_row_11 (by decide) ?_
    refine T_icmp_le (pc := 13) (tgt := 19) dX11_row_13 (by decide) (fun hc => ?_) (fun hc => ?_)
    · rw [if_pos hc] at H
      refine T_aload_n (pc := 19) dX11_row_19 rfl rfl ?_
      refine T_gR (pc := 20) fa_X11_12 dX11_row_20 (gR_mono (fun x2 H => ?_) H)
      refine T_iconst (pc := 23) (v := 1) dX11_row_23 (by decide) ?_
      obtain ⟨H0, H⟩ := H
      refine T_iV (pc := 24) (ci := 6) (av := [jI 1]) (rest := []) (o := x2) dX11_row_24 mf_X7_hasRoomForRows c_1_192 c_1_193 c_1_194 rfl rfl (Nat.le_of_ble_eq_true rfl) rfl H0 (iI_k (iI_m0 (fun x3 h H => ?_) (J_X7_hasRoomForRows (d := d) H)))
      refine T_if_ne (pc := 27) (tgt := 33) dX11_row_27 (by decide) (fun hc => ?_) (fun hc => ?_)
      · rw [if_neg hc] at H
        refine T_iload_n (pc := 33) dX11_row_33 rfl rfl ?_
        refine T_if_ge (pc := 34) (tgt := 43) dX11_row_34 (by decide) (fun hc => ?_) (fun hc => ?_)
        · rw [if_pos hc] at H
          refine T_aload_n (pc := 43) dX11_row_43 rfl rfl ?_
          refine T_gR (pc := 44) fa_X11_12 dX11_row_44 (gR_mono (fun x4 H => ?_) H)
          refine T_iload_n (pc := 47) dX11_row_47 rfl rfl ?_
          refine T_iload_n (pc := 48) dX11_row_48 rfl rfl ?_
          refine T_iconst (pc := 49) (v := 0) dX11_row_49 (by decide) ?_
          obtain ⟨H0, H⟩ := H
          refine T_iV (pc := 50) (ci := 6) (av := [jI v1, jI v2, jI 0]) (rest := []) (o := x4) dX11_row_50 mf_X7_addRow c_1_200 c_1_201 c_1_202 rfl rfl (Nat.le_of_ble_eq_true rfl) rfl H0 (iR_k (iR_mono (fun x5 h u H => ?_) H))
          refine T_gI (pc := 53) fa_X11_80 dX11_row_53 (gI_mono (fun x6 H => ?_) H)
          exact T_ireturn (pc := 56) rfl rfl dX11_row_56 H
        · rw [if_neg hc] at H
          refine T_aload_n (pc := 37) dX11_row_37 rfl rfl ?_
          refine T_iconst (pc := 38) (v := 4) dX11_row_38 (by decide) ?_
          obtain ⟨H0, H⟩ := H
          refine T_iV (pc := 39) (ci := 10) (av := [jI 4]) (rest := []) (o := v0) dX11_row_39 mf_X11_failed c_1_196 c_1_198 pr_X11_failed rfl rfl (Nat.le_of_ble_eq_true rfl) rfl H0 (iI_k (iI_m0 (fun x7 h H => ?_) (J_X11_failed (d := d) H)))
          exact T_ireturn (pc := 42) rfl rfl dX11_row_42 H
      · rw [if_pos hc] at H
        refine T_bipush (pc := 30) (v := (-4)) dX11_row_30 (by decide) ?_
        exact T_ireturn (pc := 32) rfl rfl dX11_row_32 H
    · rw [if_neg hc] at H
      refine T_bipush (pc := 16) (v := (-2)) dX11_row_16 (by decide) ?_
      exact T_ireturn (pc := 18) rfl rfl dX11_row_18 H
theorem I_X11_row {d : Nat} {v0 : Option Nm} {v1 : Int32} {v2 : Int32} {h : MH} {u : Nat} {K : Int32 → MH → Nat → Prop} (u1 : Nat) (hu : u1 ≤ u) (H : F_X11_row d v0 v1 v2 h u1 (fun x h2 => K x h2 (u - u1))) : iI (d + 1) u_X11_row [jR v0, jI v1, jI v2] h u K := inv.of u1 hu (Ct.of (by decide +kernel) rfl (Nat.le_of_ble_eq_true rfl) rfl (E_X11_row H))
theorem dX8_clear_0 : decode cX8_clear 0 = .ok (.aload_n 0, 1) := by decide +kernel
theorem dX8_clear_1 : decode cX8_clear 1 = .ok (.iconst 0, 1) := by decide +kernel
theorem dX8_clear_2 : decode cX8_clear 2 = .ok (.putfield 19, 3) := by decide +kernel
theorem dX8_clear_5 : decode cX8_clear 5 = .ok (.aload_n 0, 1) := by decide +kernel
theorem dX8_clear_6 : decode cX8_clear 6 = .ok (.iconst 0, 1) := by decide +kernel
theorem dX8_clear_7 : decode cX8_clear 7 = .ok (.putfield 23, 3) := by decide +kernel
theorem dX8_clear_10 : decode cX8_clear 10 = .ok (.return_, 1) := by decide +kernel
def F_X8_clear (d : Nat) (v0 : Option Nm) (h : MH) (u : Nat) (Q : MH → Prop) : Prop :=
  pV h v0 7 2 (jI 0) fun h =>
  nz 0 ∧
  pV h v0 7 3 (jI 0) fun h =>
  Q h
set_option maxRecDepth 20000 in
theorem E_X8_clear {d : Nat} {v0 : Option Nm} {h : MH} {u : Nat} {Q : MH → Prop} (H : F_X8_clear d v0 h u Q) : T u_X8_clear d 0 [some (jR v0)] [] h u (qV Q) := by
  unfold F_X8_clear at H
  refine T_aload_n (pc := 0) dX8_clear_0 rfl rfl ?_
  refine T_iconst (pc := 1) (v := 0) dX8_clear_1 (by decide) ?_
  refine T_pV (pc := 2) fa_X8_19 dX8_clear_2 trivial (pV_mono (fun h H => ?_) H)
  refine T_aload_n (pc := 5) dX8_clear_5 rfl rfl ?_
  refine T_iconst (pc := 6) (v := 0) dX8_clear_6 (by decide) ?_
  obtain ⟨H0, H⟩ := H
  refine T_pV (pc := 7) fa_X8_23 dX8_clear_7 H0 (pV_mono (fun h H => ?_) H)
  exact T_return (pc := 10) rfl dX8_clear_10 H
theorem I_X8_clear {d : Nat} {v0 : Option Nm} {h : MH} {u : Nat} {K : MH → Nat → Prop} (u1 : Nat) (hu : u1 ≤ u) (H : F_X8_clear d v0 h u1 (fun h2 => K h2 (u - u1))) : iV d u_X8_clear [jR v0] h u K := inv.of u1 hu (Ct.of (by decide +kernel) rfl (Nat.le_of_ble_eq_true rfl) rfl (E_X8_clear H))
theorem J_X8_clear {d : Nat} {v0 : Option Nm} {h : MH} {u : Nat} {K : MH → Prop} (H : F_X8_clear d v0 h 0 K) : iV d u_X8_clear [jR v0] h u (fun h2 u2 => K h2 ∧ u2 = u) := jiV (by decide +kernel) rfl (Nat.le_of_ble_eq_true rfl) rfl (E_X8_clear H)
theorem dX6_writes_0 : decode cX6_writes 0 = .ok (.aload_n 0, 1) := by decide +kernel
theorem dX6_writes_1 : decode cX6_writes 1 = .ok (.getfield 20, 3) := by decide +kernel
theorem dX6_writes_4 : decode cX6_writes 4 = .ok (.invokevirtual 23, 3) := by decide +kernel
theorem dX6_writes_7 : decode cX6_writes 7 = .ok (.aload_n 0, 1) := by decide +kernel
theorem dX6_writes_8 : decode cX6_writes 8 = .ok (.aload_n 1, 1) := by decide +kernel
theorem dX6_writes_9 : decode cX6_writes 9 = .ok (.invokevirtual 26, 3) := by decide +kernel
theorem dX6_writes_12 : decode cX6_writes 12 = .ok (.aload_n 0, 1) := by decide +kernel
theorem dX6_writes_13 : decode cX6_writes 13 = .ok (.getfield 20, 3) := by decide +kernel
theorem dX6_writes_16 : decode cX6_writes 16 = .ok (.getfield 30, 3) := by decide +kernel
theorem dX6_writes_19 : decode cX6_writes 19 = .ok (.ifCond .eq 5, 3) := by decide +kernel
theorem dX6_writes_22 : decode cX6_writes 22 = .ok (.iconst 0, 1) := by decide +kernel
theorem dX6_writes_23 : decode cX6_writes 23 = .ok (.ireturn, 1) := by decide +kernel
theorem dX6_writes_24 : decode cX6_writes 24 = .ok (.aload_n 0, 1) := by decide +kernel
theorem dX6_writes_25 : decode cX6_writes 25 = .ok (.getfield 16, 3) := by decide +kernel
theorem dX6_writes_28 : decode cX6_writes 28 = .ok (.astore_n 2, 1) := by decide +kernel
theorem dX6_writes_29 : decode cX6_writes 29 = .ok (.aload_n 0, 1) := by decide +kernel
theorem dX6_writes_30 : decode cX6_writes 30 = .ok (.aload_n 0, 1) := by decide +kernel
theorem dX6_writes_31 : decode cX6_writes 31 = .ok (.getfield 20, 3) := by decide +kernel
theorem dX6_writes_34 : decode cX6_writes 34 = .ok (.putfield 16, 3) := by decide +kernel
theorem dX6_writes_37 : decode cX6_writes 37 = .ok (.aload_n 0, 1) := by decide +kernel
theorem dX6_writes_38 : decode cX6_writes 38 = .ok (.aload_n 2, 1) := by decide +kernel
theorem dX6_writes_39 : decode cX6_writes 39 = .ok (.putfield 20, 3) := by decide +kernel
theorem dX6_writes_42 : decode cX6_writes 42 = .ok (.iconst 1, 1) := by decide +kernel
theorem dX6_writes_43 : decode cX6_writes 43 = .ok (.ireturn, 1) := by decide +kernel
def F_X6_writes (d : Nat) (v0 : Option Nm) (v1 : Option Nm) (h : MH) (u : Nat) (Q : Int32 → MH → Prop) : Prop :=
  gR h v0 5 2 fun x1 =>
  rc h x1 7 ∧ F_X8_clear d x1 h 0 fun h =>
  rc h v0 5 ∧ iV d u_X6_writeValue [jR v0, jR v1] h u fun h u =>
  gR h v0 5 2 fun x4 =>
  gI h x4 7 3 fun x5 =>
  if x5 = 0 then
    gR h v0 5 1 fun x6 =>
    gR h v0 5 2 fun x7 =>
    pV h v0 5 1 (jR x7) fun h =>
    pV h v0 5 2 (jR x6) fun h =>
    nz 1 ∧ Q 1 h
  else
    nz 0 ∧ Q 0 h
set_option maxRecDepth 20000 in
theorem E_X6_writes {d : Nat} {v0 : Option Nm} {v1 : Option Nm} {h : MH} {u : Nat} {Q : Int32 → MH → Prop} (H : F_X6_writes d v0 v1 h u Q) : T u_X6_writes (d + 1) 0 [some (jR v0), some (jR v1), none] [] h u (qI Q) := by
  unfold F_X6_writes at H
  refine T_aload_n (pc := 0) dX6_writes_0 rfl rfl ?_
  refine T_gR (pc := 1) fa_X6_20 dX6_writes_1 (gR_mono (fun x1 H => ?_) H)
  obtain ⟨H0, H⟩ := H
  refine T_iV (pc := 4) (ci := 7) (av := []) (rest := []) (o := x1) dX6_writes_4 mf_X8_clear c_4_117 c_4_118 c_4_119 rfl rfl (Nat.le_of_ble_eq_true rfl) rfl H0 (iV_k (iV_m0 (fun h H => ?_) (J_X8_clear (d := d) H)))
  refine T_aload_n (pc := 7) dX6_writes_7 rfl rfl ?_
  refine T_aload_n (pc := 8) dX6_writes_8 rfl rfl ?_
  obtain ⟨H0, H⟩ := H
  refine T_iV (pc := 9) (ci := 5) (av := [jR v1]) (rest := []) (o := v0) dX6_writes_9 mf_X6_writeValue c_4_121 c_4_123 pr_X6_writeValue rfl rfl (Nat.le_of_ble_eq_true rfl) rfl H0 (iV_k (iV_mono (fun h u H => ?_) H))
  refine T_aload_n (pc := 12) dX6_writes_12 rfl rfl ?_
  refine T_gR (pc := 13) fa_X6_20 dX6_writes_13 (gR_mono (fun x4 H => ?_) H)
  refine T_gI (pc := 16) fa_X6_30 dX6_writes_16 (gI_mono (fun x5 H => ?_) H)
  refine T_if_eq (pc := 19) (tgt := 24) dX6_writes_19 (by decide) (fun hc => ?_) (fun hc => ?_)
  · rw [if_pos hc] at H
    refine T_aload_n (pc := 24) dX6_writes_24 rfl rfl ?_
    refine T_gR (pc := 25) fa_X6_16 dX6_writes_25 (gR_mono (fun x6 H => ?_) H)
    refine T_astore_n (pc := 28) (ls2 := [some (jR v0), some (jR v1), some (jR x6)]) dX6_writes_28 rfl (Nat.le_of_ble_eq_true rfl) rfl ?_
    refine T_aload_n (pc := 29) dX6_writes_29 rfl rfl ?_
    refine T_aload_n (pc := 30) dX6_writes_30 rfl rfl ?_
    refine T_gR (pc := 31) fa_X6_20 dX6_writes_31 (gR_mono (fun x7 H => ?_) H)
    refine T_pV (pc := 34) fa_X6_16 dX6_writes_34 trivial (pV_mono (fun h H => ?_) H)
    refine T_aload_n (pc := 37) dX6_writes_37 rfl rfl ?_
    refine T_aload_n (pc := 38) dX6_writes_38 rfl rfl ?_
    refine T_pV (pc := 39) fa_X6_20 dX6_writes_39 trivial (pV_mono (fun h H => ?_) H)
    refine T_iconst (pc := 42) (v := 1) dX6_writes_42 (by decide) ?_
    exact T_ireturn (pc := 43) rfl (nz_nar H.1) dX6_writes_43 H.2
  · rw [if_neg hc] at H
    refine T_iconst (pc := 22) (v := 0) dX6_writes_22 (by decide) ?_
    exact T_ireturn (pc := 23) rfl (nz_nar H.1) dX6_writes_23 H.2
theorem I_X6_writes {d : Nat} {v0 : Option Nm} {v1 : Option Nm} {h : MH} {u : Nat} {K : Int32 → MH → Nat → Prop} (u1 : Nat) (hu : u1 ≤ u) (H : F_X6_writes d v0 v1 h u1 (fun x h2 => K x h2 (u - u1))) : iI (d + 1) u_X6_writes [jR v0, jR v1] h u K := inv.of u1 hu (Ct.of (by decide +kernel) rfl (Nat.le_of_ble_eq_true rfl) rfl (E_X6_writes H))
theorem J_X6_writes {d : Nat} {v0 : Option Nm} {v1 : Option Nm} {h : MH} {u : Nat} {K : Int32 → MH → Prop} (H : F_X6_writes d v0 v1 h 0 K) : iI (d + 1) u_X6_writes [jR v0, jR v1] h u (fun x h2 u2 => K x h2 ∧ u2 = u) := jiI (by decide +kernel) rfl (Nat.le_of_ble_eq_true rfl) rfl (E_X6_writes H)
theorem dX11_show_0 : decode cX11_show 0 = .ok (.aload_n 0, 1) := by decide +kernel
theorem dX11_show_1 : decode cX11_show 1 = .ok (.getfield 12, 3) := by decide +kernel
theorem dX11_show_4 : decode cX11_show 4 = .ok (.iload_n 1, 1) := by decide +kernel
theorem dX11_show_5 : decode cX11_show 5 = .ok (.i2l, 1) := by decide +kernel
theorem dX11_show_6 : decode cX11_show 6 = .ok (.invokevirtual 118, 3) := by decide +kernel
theorem dX11_show_9 : decode cX11_show 9 = .ok (.astore_n 2, 1) := by decide +kernel
theorem dX11_show_10 : decode cX11_show 10 = .ok (.aload_n 2, 1) := by decide +kernel
theorem dX11_show_11 : decode cX11_show 11 = .ok (.ifnonnull 5, 3) := by decide +kernel
theorem dX11_show_14 : decode cX11_show 14 = .ok (.iconst (-1), 1) := by decide +kernel
theorem dX11_show_15 : decode cX11_show 15 = .ok (.ireturn, 1) := by decide +kernel
theorem dX11_show_16 : decode cX11_show 16 = .ok (.aload_n 0, 1) := by decide +kernel
theorem dX11_show_17 : decode cX11_show 17 = .ok (.getfield 44, 3) := by decide +kernel
theorem dX11_show_20 : decode cX11_show 20 = .ok (.aload_n 2, 1) := by decide +kernel
theorem dX11_show_21 : decode cX11_show 21 = .ok (.invokevirtual 303, 3) := by decide +kernel
theorem dX11_show_24 : decode cX11_show 24 = .ok (.ifCond .eq 16, 3) := by decide +kernel
theorem dX11_show_27 : decode cX11_show 27 = .ok (.aload_n 0, 1) := by decide +kernel
theorem dX11_show_28 : decode cX11_show 28 = .ok (.getfield 44, 3) := by decide +kernel
theorem dX11_show_31 : decode cX11_show 31 = .ok (.getfield 307, 3) := by decide +kernel
theorem dX11_show_34 : decode cX11_show 34 = .ok (.getfield 311, 3) := by decide +kernel
theorem dX11_show_37 : decode cX11_show 37 = .ok (.goto 5, 3) := by decide +kernel
theorem dX11_show_40 : decode cX11_show 40 = .ok (.bipush (-4), 2) := by decide +kernel
theorem dX11_show_42 : decode cX11_show 42 = .ok (.ireturn, 1) := by decide +kernel
def F_X11_show (d : Nat) (v0 : Option Nm) (v1 : Int32) (h : MH) (u : Nat) (Q : Int32 → MH → Prop) : Prop :=
  gR h v0 10 0 fun x1 =>
  rc h x1 6 ∧ F_X7_findValue (d + 1) x1 (v1.toInt64) h 0 fun x2 h =>
  nl x2 (
    Q (-1) h) (
    gR h v0 10 4 fun x3 =>
    rc h x3 5 ∧ F_X6_writes d x3 x2 h 0 fun x4 h =>
    if x4 = 0 then
      Q (-4) h
    else
      gR h v0 10 4 fun x5 =>
      gR h x5 5 1 fun x6 =>
      gI h x6 7 2 fun x7 =>
      Q x7 h)
set_option maxRecDepth 20000 in
theorem E_X11_show {d : Nat} {v0 : Option Nm} {v1 : Int32} {h : MH} {u : Nat} {Q : Int32 → MH → Prop} (H : F_X11_show d v0 v1 h u Q) : T u_X11_show (d + 2) 0 [some (jR v0), some (jI v1), none] [] h u (qI Q) := by
  unfold F_X11_show at H
  refine T_aload_n (pc := 0) dX11_show_0 rfl rfl ?_
  refine T_gR (pc := 1) fa_X11_12 dX11_show_1 (gR_mono (fun x1 H => ?_) H)
  refine T_iload_n (pc := 4) dX11_show_4 rfl rfl ?_
  refine T_i2l (pc := 5) dX11_show_5 ?_
  obtain ⟨H0, H⟩ := H
  refine T_iV (pc := 6) (ci := 6) (av := [jL (v1.toInt64)]) (rest := []) (o := x1) dX11_show_6 mf_X7_findValue c_2_63 c_2_64 c_2_65 rfl rfl (Nat.le_of_ble_eq_true rfl) rfl H0 (iR_k (iR_m0 (fun x2 h H => ?_) (J_X7_findValue (d := (d + 1)) H)))
  refine T_astore_n (pc := 9) (ls2 := [some (jR v0), some (jI v1), some (jR x2)]) dX11_show_9 rfl (Nat.le_of_ble_eq_true rfl) rfl ?_
  refine T_aload_n (pc := 10) dX11_show_10 rfl rfl ?_
  refine T_ifnonnull (pc := 11) (tgt := 16) dX11_show_11 (by decide) (fun ho => ?_) (fun n ho => ?_)
  · replace H := nl_n ho H
    refine T_iconst (pc := 14) (v := (-1)) dX11_show_14 (by decide) ?_
    exact T_ireturn (pc := 15) rfl rfl dX11_show_15 H
  · replace H := nl_s ho H
    refine T_aload_n (pc := 16) dX11_show_16 rfl rfl ?_
    refine T_gR (pc := 17) fa_X11_44 dX11_show_17 (gR_mono (fun x3 H => ?_) H)
    refine T_aload_n (pc := 20) dX11_show_20 rfl rfl ?_
    obtain ⟨H0, H⟩ := H
    refine T_iV (pc := 21) (ci := 5) (av := [jR x2]) (rest := []) (o := x3) dX11_show_21 mf_X6_writes c_4_113 c_4_114 c_4_115 rfl rfl (Nat.le_of_ble_eq_true rfl) rfl H0 (iI_k (iI_m0 (fun x4 h H => ?_) (J_X6_writes (d := d) H)))
    refine T_if_eq (pc := 24) (tgt := 40) dX11_show_24 (by decide) (fun hc => ?_) (fun hc => ?_)
    · rw [if_pos hc] at H
      refine T_bipush (pc := 40) (v := (-4)) dX11_show_40 (by decide) ?_
      exact T_ireturn (pc := 42) rfl rfl dX11_show_42 H
    · rw [if_neg hc] at H
      refine T_aload_n (pc := 27) dX11_show_27 rfl rfl ?_
      refine T_gR (pc := 28) fa_X11_44 dX11_show_28 (gR_mono (fun x5 H => ?_) H)
      refine T_gR (pc := 31) fa_X11_307 dX11_show_31 (gR_mono (fun x6 H => ?_) H)
      refine T_gI (pc := 34) fa_X11_311 dX11_show_34 (gI_mono (fun x7 H => ?_) H)
      refine T_goto (pc := 37) (tgt := 42) dX11_show_37 (by decide) ?_
      exact T_ireturn (pc := 42) rfl rfl dX11_show_42 H
theorem I_X11_show {d : Nat} {v0 : Option Nm} {v1 : Int32} {h : MH} {u : Nat} {K : Int32 → MH → Nat → Prop} (u1 : Nat) (hu : u1 ≤ u) (H : F_X11_show d v0 v1 h u1 (fun x h2 => K x h2 (u - u1))) : iI (d + 2) u_X11_show [jR v0, jI v1] h u K := inv.of u1 hu (Ct.of (by decide +kernel) rfl (Nat.le_of_ble_eq_true rfl) rfl (E_X11_show H))
theorem J_X11_show {d : Nat} {v0 : Option Nm} {v1 : Int32} {h : MH} {u : Nat} {K : Int32 → MH → Prop} (H : F_X11_show d v0 v1 h 0 K) : iI (d + 2) u_X11_show [jR v0, jI v1] h u (fun x h2 u2 => K x h2 ∧ u2 = u) := jiI (by decide +kernel) rfl (Nat.le_of_ble_eq_true rfl) rfl (E_X11_show H)
theorem dX11_start_0 : decode cX11_start 0 = .ok (.aload_n 1, 1) := by decide +kernel
theorem dX11_start_1 : decode cX11_start 1 = .ok (.getfield 169, 3) := by decide +kernel
theorem dX11_start_4 : decode cX11_start 4 = .ok (.ifCond .eq 4, 3) := by decide +kernel
theorem dX11_start_7 : decode cX11_start 7 = .ok (.return_, 1) := by decide +kernel
theorem dX11_start_8 : decode cX11_start 8 = .ok (.aload_n 1, 1) := by decide +kernel
theorem dX11_start_9 : decode cX11_start 9 = .ok (.iconst 1, 1) := by decide +kernel
theorem dX11_start_10 : decode cX11_start 10 = .ok (.putfield 169, 3) := by decide +kernel
theorem dX11_start_13 : decode cX11_start 13 = .ok (.aload_n 0, 1) := by decide +kernel
theorem dX11_start_14 : decode cX11_start 14 = .ok (.dup, 1) := by decide +kernel
theorem dX11_start_15 : decode cX11_start 15 = .ok (.getfield 335, 3) := by decide +kernel
theorem dX11_start_18 : decode cX11_start 18 = .ok (.iconst 1, 1) := by decide +kernel
theorem dX11_start_19 : decode cX11_start 19 = .ok (.iadd, 1) := by decide +kernel
theorem dX11_start_20 : decode cX11_start 20 = .ok (.putfield 335, 3) := by decide +kernel
theorem dX11_start_23 : decode cX11_start 23 = .ok (.aload_n 0, 1) := by decide +kernel
theorem dX11_start_24 : decode cX11_start 24 = .ok (.bipush 100, 2) := by decide +kernel
theorem dX11_start_26 : decode cX11_start 26 = .ok (.aload_n 1, 1) := by decide +kernel
theorem dX11_start_27 : decode cX11_start 27 = .ok (.getfield 268, 3) := by decide +kernel
theorem dX11_start_30 : decode cX11_start 30 = .ok (.iadd, 1) := by decide +kernel
theorem dX11_start_31 : decode cX11_start 31 = .ok (.invokevirtual 366, 3) := by decide +kernel
theorem dX11_start_34 : decode cX11_start 34 = .ok (.aload_n 1, 1) := by decide +kernel
theorem dX11_start_35 : decode cX11_start 35 = .ok (.getfield 192, 3) := by decide +kernel
theorem dX11_start_38 : decode cX11_start 38 = .ok (.ifCond .eq 30, 3) := by decide +kernel
theorem dX11_start_41 : decode cX11_start 41 = .ok (.aload_n 1, 1) := by decide +kernel
theorem dX11_start_42 : decode cX11_start 42 = .ok (.invokevirtual 165, 3) := by decide +kernel
theorem dX11_start_45 : decode cX11_start 45 = .ok (.getfield 185, 3) := by decide +kernel
theorem dX11_start_48 : decode cX11_start 48 = .ok (.istore_n 2, 1) := by decide +kernel
theorem dX11_start_49 : decode cX11_start 49 = .ok (.iconst 0, 1) := by decide +kernel
theorem dX11_start_50 : decode cX11_start 50 = .ok (.istore_n 3, 1) := by decide +kernel
theorem dX11_start_51 : decode cX11_start 51 = .ok (.iload_n 3, 1) := by decide +kernel
theorem dX11_start_52 : decode cX11_start 52 = .ok (.iload_n 2, 1) := by decide +kernel
theorem dX11_start_53 : decode cX11_start 53 = .ok (.if_icmp .ge 15, 3) := by decide +kernel
theorem dX11_start_56 : decode cX11_start 56 = .ok (.aload_n 0, 1) := by decide +kernel
theorem dX11_start_57 : decode cX11_start 57 = .ok (.aload_n 1, 1) := by decide +kernel
theorem dX11_start_58 : decode cX11_start 58 = .ok (.iload_n 3, 1) := by decide +kernel
theorem dX11_start_59 : decode cX11_start 59 = .ok (.invokevirtual 206, 3) := by decide +kernel
theorem dX11_start_62 : decode cX11_start 62 = .ok (.iinc 3 1, 3) := by decide +kernel
theorem dX11_start_65 : decode cX11_start 65 = .ok (.goto (-14), 3) := by decide +kernel
theorem dX11_start_68 : decode cX11_start 68 = .ok (.return_, 1) := by decide +kernel
def L_X11_start_51 (d : Nat) (v0 : Option Nm) (v1 : Option Nm) (v2 : Int32) (v3 : Int32) (h : MH) (u : Nat) (Q : MH → Prop) : Prop := T u_X11_start (d + 1) 51 [some (jR v0), some (jR v1), some (jI v2), some (jI v3)] [] h u (qV Q)
def F_X11_start (d : Nat) (v0 : Option Nm) (v1 : Option Nm) (h : MH) (u : Nat) (Q : MH → Prop) : Prop :=
  gI h v1 3 5 fun x1 =>
  if x1 = 0 then
    nz 1 ∧
    pV h v1 3 5 (jI 1) fun h =>
    gI h v0 10 10 fun x2 =>
    pV h v0 10 10 (jI (x2 + 1)) fun h =>
    gI h v1 3 0 fun x3 =>
    rc h v0 10 ∧ F_X11_leaveTrace d v0 (100 + x3) h 0 fun h =>
    gI h v1 3 1 fun x5 =>
    if x5 = 0 then
      Q h
    else
      rc h v1 3 ∧ F_X3_newest d v1 h 0 fun x6 h =>
      gI h x6 2 4 fun x7 =>
      L_X11_start_51 d v0 v1 x7 0 h u Q
  else
    Q h
set_option maxRecDepth 20000 in
theorem E_X11_start {d : Nat} {v0 : Option Nm} {v1 : Option Nm} {h : MH} {u : Nat} {Q : MH → Prop} (H : F_X11_start d v0 v1 h u Q) : T u_X11_start (d + 1) 0 [some (jR v0), some (jR v1), none, none] [] h u (qV Q) := by
  unfold F_X11_start at H
  refine T_aload_n (pc := 0) dX11_start_0 rfl rfl ?_
  refine T_gI (pc := 1) fa_X11_169 dX11_start_1 (gI_mono (fun x1 H => ?_) H)
  refine T_if_eq (pc := 4) (tgt := 8) dX11_start_4 (by decide) (fun hc => ?_) (fun hc => ?_)
  · rw [if_pos hc] at H
    refine T_aload_n (pc := 8) dX11_start_8 rfl rfl ?_
    refine T_iconst (pc := 9) (v := 1) dX11_start_9 (by decide) ?_
    obtain ⟨H0, H⟩ := H
    refine T_pV (pc := 10) fa_X11_169 dX11_start_10 H0 (pV_mono (fun h H => ?_) H)
    refine T_aload_n (pc := 13) dX11_start_13 rfl rfl ?_
    refine T_dup (pc := 14) rfl dX11_start_14 ?_
    refine T_gI (pc := 15) fa_X11_335 dX11_start_15 (gI_mono (fun x2 H => ?_) H)
    refine T_iconst (pc := 18) (v := 1) dX11_start_18 (by decide) ?_
    refine T_iadd (pc := 19) dX11_start_19 ?_
    refine T_pV (pc := 20) fa_X11_335 dX11_start_20 trivial (pV_mono (fun h H => ?_) H)
    refine T_aload_n (pc := 23) dX11_start_23 rfl rfl ?_
    refine T_bipush (pc := 24) (v := 100) dX11_start_24 (by decide) ?_
    refine T_aload_n (pc := 26) dX11_start_26 rfl rfl ?_
    refine T_gI (pc := 27) fa_X11_268 dX11_start_27 (gI_mono (fun x3 H => ?_) H)
    refine T_iadd (pc := 30) dX11_start_30 ?_
    obtain ⟨H0, H⟩ := H
    refine T_iV (pc := 31) (ci := 10) (av := [jI (100 + x3)]) (rest := []) (o := v0) dX11_start_31 mf_X11_leaveTrace c_3_141 c_3_143 pr_X11_leaveTrace rfl rfl (Nat.le_of_ble_eq_true rfl) rfl H0 (iV_k (iV_m0 (fun h H => ?_) (J_X11_leaveTrace (d := d) H)))
    refine T_aload_n (pc := 34) dX11_start_34 rfl rfl ?_
    refine T_gI (pc := 35) fa_X11_192 dX11_start_35 (gI_mono (fun x5 H => ?_) H)
    refine T_if_eq (pc := 38) (tgt := 68) dX11_start_38 (by decide) (fun hc => ?_) (fun hc => ?_)
    · rw [if_pos hc] at H
      exact T_return (pc := 68) rfl dX11_start_68 H
    · rw [if_neg hc] at H
      refine T_aload_n (pc := 41) dX11_start_41 rfl rfl ?_
      obtain ⟨H0, H⟩ := H
      refine T_iV (pc := 42) (ci := 3) (av := []) (rest := []) (o := v1) dX11_start_42 mf_X3_newest c_2_213 c_2_214 c_2_215 rfl rfl (Nat.le_of_ble_eq_true rfl) rfl H0 (iR_k (iR_m0 (fun x6 h H => ?_) (J_X3_newest (d := d) H)))
      refine T_gI (pc := 45) fa_X11_185 dX11_start_45 (gI_mono (fun x7 H => ?_) H)
      refine T_istore_n (pc := 48) (ls2 := [some (jR v0), some (jR v1), some (jI x7), none]) dX11_start_48 rfl (Nat.le_of_ble_eq_true rfl) rfl ?_
      refine T_iconst (pc := 49) (v := 0) dX11_start_49 (by decide) ?_
      refine T_istore_n (pc := 50) (ls2 := [some (jR v0), some (jR v1), some (jI x7), some (jI 0)]) dX11_start_50 rfl (Nat.le_of_ble_eq_true rfl) rfl ?_
      exact T.forget H ⟨rfl, rfl, rfl, rfl, trivial⟩
  · rw [if_neg hc] at H
    exact T_return (pc := 7) rfl dX11_start_7 H
def F_X11_start_51 (d : Nat) (v0 : Option Nm) (v1 : Option Nm) (v2 : Int32) (v3 : Int32) (h : MH) (u : Nat) (Q : MH → Prop) : Prop :=
  if v2 ≤ v3 then
    Q h
  else
    rc h v0 10 ∧ iV d u_X11_addConstant [jR v0, jR v1, jI v3] h u fun h u =>
    L_X11_start_51 d v0 v1 v2 (v3 + 1) h u Q
set_option maxRecDepth 20000 in
theorem E_X11_start_51 {d : Nat} {v0 : Option Nm} {v1 : Option Nm} {v2 : Int32} {v3 : Int32} {h : MH} {u : Nat} {Q : MH → Prop} (H : F_X11_start_51 d v0 v1 v2 v3 h u Q) : T u_X11_start (d + 1) 51 [some (jR v0), some (jR v1), some (jI v2), some (jI v3)] [] h u (qV Q) := by
  unfold F_X11_start_51 at H
  refine T_iload_n (pc := 51) dX11_start_51 rfl rfl ?_
  refine T_iload_n (pc := 52) dX11_start_52 rfl rfl ?_
  refine T_icmp_ge (pc := 53) (tgt := 68) dX11_start_53 (by decide) (fun hc => ?_) (fun hc => ?_)
  · rw [if_pos hc] at H
    exact T_return (pc := 68) rfl dX11_start_68 H
  · rw [if_neg hc] at H
    refine T_aload_n (pc := 56) dX11_start_56 rfl rfl ?_
    refine T_aload_n (pc := 57) dX11_start_57 rfl rfl ?_
    refine T_iload_n (pc := 58) dX11_start_58 rfl rfl ?_
    obtain ⟨H0, H⟩ := H
    refine T_iV (pc := 59) (ci := 10) (av := [jR v1, jI v3]) (rest := []) (o := v0) dX11_start_59 mf_X11_addConstant c_3_44 c_3_46 pr_X11_addConstant rfl rfl (Nat.le_of_ble_eq_true rfl) rfl H0 (iV_k (iV_mono (fun h u H => ?_) H))
    refine T_iinc (pc := 62) (v := v3 + 1) (ls2 := [some (jR v0), some (jR v1), some (jI v2), some (jI (v3 + 1))]) dX11_start_62 rfl rfl (Nat.le_of_ble_eq_true rfl) rfl ?_
    refine T_goto (pc := 65) (tgt := 51) dX11_start_65 (by decide) ?_
    exact T.forget H ⟨rfl, rfl, rfl, rfl, trivial⟩
theorem I_X11_start {d : Nat} {v0 : Option Nm} {v1 : Option Nm} {h : MH} {u : Nat} {K : MH → Nat → Prop} (u1 : Nat) (hu : u1 ≤ u) (H : F_X11_start d v0 v1 h u1 (fun h2 => K h2 (u - u1))) : iV (d + 1) u_X11_start [jR v0, jR v1] h u K := inv.of u1 hu (Ct.of (by decide +kernel) rfl (Nat.le_of_ble_eq_true rfl) rfl (E_X11_start H))
